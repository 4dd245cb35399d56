/-! THE LAW'S LOOP OVER THE MACHINE (written by wip/p30/gen19/loop.py) -/
theorem ts_stp {scr : pX} {mi pc : Nat} {L st : List Value} {w : pW} {ins : Instr} (h : p_at mi pc = some ins) : p_stp scr mi pc L st w = p_ex scr mi pc ins L st w := by unfold p_stp; rw [h]
theorem ts_cw94 : p_cw 94 = .code yL_cell cL_cell 2 (some .int) := rfl
section Lo
variable {p : Program} {l : Launch} {e : Env} {s : State} {m : MethodId} {below : List Frame} {meth : Method} {c : Code} {D : va_G} {ty : Nat → ClassId} {ad : Nat → Nat} {b N : Nat} {xs : Nat → Int32} {cells slots : Nat} {Q : State → Prop}
set_option maxHeartbeats 4000000 in
theorem ts_ccell (C : p_Cx l room_1 p s m #[Value.ref b] meth c 100) (V : p_Wd D ty (fun q : Nat => s.heap.size ≤ q) s) (X : p_sc (some (N, xs)) ad (fun q : Nat => s.heap.size ≤ q) s) (hN : N ≤ 260) (hc : cells ≤ room_1.cells) (hs : slots ≤ room_1.slots) {k pc : Nat} (hk : k < 2 ^ 31) (hat : p_at 100 pc = some (.invokestatic 83)) {L rest : List Value} {w : pW} (hrest : p_cs rest ≤ 8)
    (kk : ∀ r : Int32, p_K p l e room_1 s m #[Value.ref b] below meth c cells slots Q D ty ad (fun q : Nat => s.heap.size ≤ q) 100 (pc + 3) L (.int r :: rest) w) : p_K p l e room_1 s m #[Value.ref b] below meth c cells slots Q D ty ad (fun q : Nat => s.heap.size ≤ q) 100 pc L (.int (nI k) :: .ref 999 :: rest) w := by
  intro ls H locs hl hP hD hS
  obtain ⟨hx, hb, hml, hown, hts, hlk, hrt, hRF, hRL, hst0, htab⟩ := C
  have hd := p_dec hat
  obtain ⟨hX, hbl, hbA⟩ := X N xs rfl
  obtain ⟨hm, hlk2, hpar⟩ := p_callk (mi := 100) (idx := 83) (one := 1) (mj := 94) (n := 2) (by decide) (by decide +kernel)
  obtain ⟨q1, q2, q3, q4, q5, q6⟩ := p_msk hm
  have hlk3 : Cond.methodLink (p_nm (p_own 100)) 83 (p_y 94) ∈ p_big := by
    rcases hlk2 with z | z
    · exact absurd z id
    · exact z
  have hgood := p_goodIn hm
  rw [ts_cw94] at hgood
  have hsig : ∀ sig, parseMethodDescriptor (p_y 94).desc = some sig → 2 = sig.parameters.length := by
    intro sig hs2
    rw [hs2] at hpar
    simp only [Option.map_some, show p_virt 94 = false from rfl, Bool.false_eq_true, if_false, Option.some.injEq] at hpar
    omega
  have hM := ts_cell l (ad 999) N xs k hk (show N < 2 ^ 31 by omega) H.size
  have hA1 : ∀ q : Nat, va_A [] H.size q → s.heap.size ≤ q := by
    intro q z
    rcases z with ⟨k0, e0, z⟩ | z
    · simp at z
    · exact Nat.le_trans hS.1 z
  refine va_calli (va_runS (As := [.ref (ad 999), .int (nI k)]) (rest := rest.map (p_cv ad)) (y := yL_cell) (bytes := cL_cell) (maxL := 2) (ret := some .int) (n := 2) (nL := p_ml 100) ⟨hx, hb, hml, hown, hts⟩ hM
    ⟨⟨rfl, rfl, Nat.le_of_ble_eq_true rfl, Nat.le_of_ble_eq_true rfl, pay_in hts hgood, List.mem_cons_self, hts _ (hgood _ List.mem_cons_self).1, hts _ q1, q4, hsig, hts _ hlk3⟩, hts _ (q3 rfl)⟩
    ⟨ts_Pc_blind, fun U hU hW => ⟨rfl, by rw [hU], by
      rw [hU]
      exact va_X.moved hW.alike (hX.kept (hS.2.1 _ hbl hbA))⟩⟩ rfl rfl hl.2.1 rfl (lv_room (by rw [p_vcat]; exact hrest)) hd ⟨hc, hs⟩) hS (fun q _ h => hA1 q h) hA1 (fun r u t H1 locs1 ht hvm _ _ hz hk1 hS1 => ?_)
  refine kk r ls H1 locs1 hl (hP.kept (fun j q hq => hk1 q.1 (hP j q hq).lt (fun z => ?_))) hD hS1
  rcases z with ⟨k0, e0, z⟩ | z
  · simp at z
  · exact absurd (hP j q hq).lt (Nat.not_lt.mpr z)
end Lo
set_option maxHeartbeats 8000000 in
theorem ts_loop {p : Program} {l : Launch} {e : Env} {s : State} {m : MethodId} {below : List Frame} {meth : Method} {c : Code} {D : va_G} {ty : Nat → ClassId} {ad : Nat → Nat} {b N : Nat} {xs : Nat → Int32}
    (C : p_Cx l room_1 p s m #[Value.ref b] meth c 100) (V : p_Wd D ty (fun q : Nat => s.heap.size ≤ q) s) (X : p_sc (some (N, xs)) ad (fun q : Nat => s.heap.size ≤ q) s) (hb : c.code = code) (hr : meth.sig.returnType = ret) (hN : N ≤ 260) : ∀ (d i : Nat) (w : pW) (n wv : Nat) (sp : Nat → Bool) (x : Nat → Int64) (cells slots : Nat), i + d = 12 → q_K n wv sp x w → cells ≤ 25 → slots ≤ 12429 →
    p_K p l e room_1 s m #[Value.ref b] below meth c cells slots (lw_Z below #[Value.ref b] s) D ty ad (fun q : Nat => s.heap.size ≤ q) 100 21 [.ref 999, .ref 0, .ref 23, .ref 24, .int (nI i)] [] w := by
  have hx := C.1
  have hlk : meth.locks = false := C.2.2.2.2.2.1
  have hst : l.stackTraces = false := C.2.2.2.2.2.2.2.2.2.1
  have hcells : room_1.cells = 167 := rfl
  have hslots : room_1.slots = 13541 := rfl
  intro d
  induction d with
  | zero =>
    intro i w n wv sp x cells slots hi hK hc hs
    obtain rfl : i = 12 := by omega
    have hcc : cells ≤ room_1.cells := by omega
    have hss : slots ≤ room_1.slots := by omega
    refine p_snd_jump C V X hcc hss (pc1 := 23) (L1 := [.ref 999, .ref 0, .ref 23, .ref 24, .int (nI 12)]) (st1 := [.int (nI 12)]) (w1 := w) (by
      rw [ts_stp (by decide +kernel : p_at 100 21 = some (.iload 4))]
      rfl) ?_
    refine p_snd_jump C V X hcc hss (pc1 := 25) (L1 := [.ref 999, .ref 0, .ref 23, .ref 24, .int (nI 12)]) (st1 := [.int (nI 12), .int (nI 12)]) (w1 := w) (by
      rw [ts_stp (by decide +kernel : p_at 100 23 = some (.bipush 12))]
      rfl) ?_
    refine p_snd_jump C V X hcc hss (pc1 := 69) (L1 := [.ref 999, .ref 0, .ref 23, .ref 24, .int (nI 12)]) (st1 := []) (w1 := w) (by
      rw [ts_stp (by decide +kernel : p_at 100 25 = some (.if_icmp .ge 44))]
      rfl) ?_
    refine p_snd_jump C V X hcc hss (pc1 := 70) (L1 := [.ref 999, .ref 0, .ref 23, .ref 24, .int (nI 12)]) (st1 := [.int (nI 1)]) (w1 := w) (by
      rw [ts_stp (by decide +kernel : p_at 100 69 = some (.iconst 1))]
      rfl) ?_
    intro ls H locs hl hP hD hS
    refine va_forget (fun q hq => hS.2.2 q hq) ?_
    refine W.widen (k := 167) (n := 13541) (by omega) (by omega) ?_
    exact lw_ret hx hb hr hlk (p_dec (by decide +kernel : p_at 100 70 = some .ireturn))
  | succ d ih =>
    intro i w n wv sp x cells slots hi hK hc hs
    have hcc : cells ≤ room_1.cells := by omega
    have hss : slots ≤ room_1.slots := by omega
    have hge : decide (nI 12 ≤ nI i) = false := decide_eq_false (fun z => by rw [nI_leI (by omega) (by omega)] at z; omega)
    have hmul : nI 2 * nI i = nI (2 * i) := pk_mul 2 i
    have hadd : nI (2 * i) + nI 1 = nI (2 * i + 1) := nI_add _ _
    have hcI : p_cI (p_own 100) 57 = some (nI 2147483647) := by decide +kernel
    refine p_snd_jump C V X hcc hss (pc1 := 23) (L1 := [.ref 999, .ref 0, .ref 23, .ref 24, .int (nI i)]) (st1 := [.int (nI i)]) (w1 := w) (by
      rw [ts_stp (by decide +kernel : p_at 100 21 = some (.iload 4))]
      rfl) ?_
    refine p_snd_jump C V X hcc hss (pc1 := 25) (L1 := [.ref 999, .ref 0, .ref 23, .ref 24, .int (nI i)]) (st1 := [.int (nI 12), .int (nI i)]) (w1 := w) (by
      rw [ts_stp (by decide +kernel : p_at 100 23 = some (.bipush 12))]
      rfl) ?_
    refine p_snd_jump C V X hcc hss (pc1 := 28) (L1 := [.ref 999, .ref 0, .ref 23, .ref 24, .int (nI i)]) (st1 := []) (w1 := w) (by
      rw [ts_stp (by decide +kernel : p_at 100 25 = some (.if_icmp .ge 44))]
      show (if p_bo 25 44 = true then p_J (if decide (nI 12 ≤ nI i) = true then p_tg 25 44 else 28) _ _ _ else none) = _; rw [hge]; rfl) ?_
    refine p_snd_jump C V X hcc hss (pc1 := 29) (L1 := [.ref 999, .ref 0, .ref 23, .ref 24, .int (nI i)]) (st1 := [.ref 0]) (w1 := w) (by
      rw [ts_stp (by decide +kernel : p_at 100 28 = some (.aload_n 1))]
      rfl) ?_
    refine p_snd_jump C V X hcc hss (pc1 := 30) (L1 := [.ref 999, .ref 0, .ref 23, .ref 24, .int (nI i)]) (st1 := [.ref 999, .ref 0]) (w1 := w) (by
      rw [ts_stp (by decide +kernel : p_at 100 29 = some (.aload_n 0))]
      rfl) ?_
    refine p_snd_jump C V X hcc hss (pc1 := 31) (L1 := [.ref 999, .ref 0, .ref 23, .ref 24, .int (nI i)]) (st1 := [.int (nI 2), .ref 999, .ref 0]) (w1 := w) (by
      rw [ts_stp (by decide +kernel : p_at 100 30 = some (.iconst 2))]
      rfl) ?_
    refine p_snd_jump C V X hcc hss (pc1 := 33) (L1 := [.ref 999, .ref 0, .ref 23, .ref 24, .int (nI i)]) (st1 := [.int (nI i), .int (nI 2), .ref 999, .ref 0]) (w1 := w) (by
      rw [ts_stp (by decide +kernel : p_at 100 31 = some (.iload 4))]
      rfl) ?_
    refine p_snd_jump C V X hcc hss (pc1 := 34) (L1 := [.ref 999, .ref 0, .ref 23, .ref 24, .int (nI i)]) (st1 := [.int (nI (2 * i)), .ref 999, .ref 0]) (w1 := w) (by
      rw [ts_stp (by decide +kernel : p_at 100 33 = some (.imul))]
      rw [← hmul]; rfl) ?_
    refine ts_ccell C V X hN hcc hss (k := 2 * i) (by omega) (by decide +kernel : p_at 100 34 = some (.invokestatic 83)) (Nat.le_of_ble_eq_true rfl) (fun r1 => ?_)
    obtain ⟨X1, hX1, eX1⟩ := pk_andE r1 (m := nI 2147483647) 31 (by decide +kernel)
    refine p_snd_jump C V X hcc hss (pc1 := 39) (L1 := [.ref 999, .ref 0, .ref 23, .ref 24, .int (nI i)]) (st1 := [.int (nI 2147483647), .int r1, .ref 0]) (w1 := w) (by
      rw [ts_stp (by decide +kernel : p_at 100 37 = some (.ldc 57))]
      show (match p_cI (p_own 100) 57 with
      | some v => p_J _ _ (.int v :: _) _
      | none => none) = _
      rw [hcI]; rfl) ?_
    refine p_snd_jump C V X hcc hss (pc1 := 40) (L1 := [.ref 999, .ref 0, .ref 23, .ref 24, .int (nI i)]) (st1 := [.int (nI X1), .ref 0]) (w1 := w) (by
      rw [ts_stp (by decide +kernel : p_at 100 39 = some (.iand))]
      rw [← eX1]; rfl) ?_
    refine p_snd_jump C V X hcc hss (pc1 := 41) (L1 := [.ref 999, .ref 0, .ref 23, .ref 24, .int (nI i)]) (st1 := [.ref 999, .int (nI X1), .ref 0]) (w1 := w) (by
      rw [ts_stp (by decide +kernel : p_at 100 40 = some (.aload_n 0))]
      rfl) ?_
    refine p_snd_jump C V X hcc hss (pc1 := 42) (L1 := [.ref 999, .ref 0, .ref 23, .ref 24, .int (nI i)]) (st1 := [.int (nI 2), .ref 999, .int (nI X1), .ref 0]) (w1 := w) (by
      rw [ts_stp (by decide +kernel : p_at 100 41 = some (.iconst 2))]
      rfl) ?_
    refine p_snd_jump C V X hcc hss (pc1 := 44) (L1 := [.ref 999, .ref 0, .ref 23, .ref 24, .int (nI i)]) (st1 := [.int (nI i), .int (nI 2), .ref 999, .int (nI X1), .ref 0]) (w1 := w) (by
      rw [ts_stp (by decide +kernel : p_at 100 42 = some (.iload 4))]
      rfl) ?_
    refine p_snd_jump C V X hcc hss (pc1 := 45) (L1 := [.ref 999, .ref 0, .ref 23, .ref 24, .int (nI i)]) (st1 := [.int (nI (2 * i)), .ref 999, .int (nI X1), .ref 0]) (w1 := w) (by
      rw [ts_stp (by decide +kernel : p_at 100 44 = some (.imul))]
      rw [← hmul]; rfl) ?_
    refine p_snd_jump C V X hcc hss (pc1 := 46) (L1 := [.ref 999, .ref 0, .ref 23, .ref 24, .int (nI i)]) (st1 := [.int (nI 1), .int (nI (2 * i)), .ref 999, .int (nI X1), .ref 0]) (w1 := w) (by
      rw [ts_stp (by decide +kernel : p_at 100 45 = some (.iconst 1))]
      rfl) ?_
    refine p_snd_jump C V X hcc hss (pc1 := 47) (L1 := [.ref 999, .ref 0, .ref 23, .ref 24, .int (nI i)]) (st1 := [.int (nI (2 * i + 1)), .ref 999, .int (nI X1), .ref 0]) (w1 := w) (by
      rw [ts_stp (by decide +kernel : p_at 100 46 = some (.iadd))]
      rw [← hadd]; rfl) ?_
    refine ts_ccell C V X hN hcc hss (k := 2 * i + 1) (by omega) (by decide +kernel : p_at 100 47 = some (.invokestatic 83)) (Nat.le_of_ble_eq_true rfl) (fun r2 => ?_)
    obtain ⟨Y1, hY1, eY1⟩ := pk_andE r2 (m := nI 2147483647) 31 (by decide +kernel)
    refine p_snd_jump C V X hcc hss (pc1 := 52) (L1 := [.ref 999, .ref 0, .ref 23, .ref 24, .int (nI i)]) (st1 := [.int (nI 2147483647), .int r2, .int (nI X1), .ref 0]) (w1 := w) (by
      rw [ts_stp (by decide +kernel : p_at 100 50 = some (.ldc 57))]
      show (match p_cI (p_own 100) 57 with
      | some v => p_J _ _ (.int v :: _) _
      | none => none) = _
      rw [hcI]; rfl) ?_
    refine p_snd_jump C V X hcc hss (pc1 := 53) (L1 := [.ref 999, .ref 0, .ref 23, .ref 24, .int (nI i)]) (st1 := [.int (nI Y1), .int (nI X1), .ref 0]) (w1 := w) (by
      rw [ts_stp (by decide +kernel : p_at 100 52 = some (.iand))]
      rw [← eY1]; rfl) ?_
    refine p_snd_jump C V X hcc hss (pc1 := 54) (L1 := [.ref 999, .ref 0, .ref 23, .ref 24, .int (nI i)]) (st1 := [.ref 23, .int (nI Y1), .int (nI X1), .ref 0]) (w1 := w) (by
      rw [ts_stp (by decide +kernel : p_at 100 53 = some (.aload_n 2))]
      rfl) ?_
    refine p_snd_jump C V X hcc hss (pc1 := 55) (L1 := [.ref 999, .ref 0, .ref 23, .ref 24, .int (nI i)]) (st1 := [.ref 24, .ref 23, .int (nI Y1), .int (nI X1), .ref 0]) (w1 := w) (by
      rw [ts_stp (by decide +kernel : p_at 100 54 = some (.aload_n 3))]
      rfl) ?_
    obtain ⟨w1, n1, wv1, x1, ev1, K1⟩ := ts_signal (X := X1) (Y := Y1) hX1 hY1 hK
    obtain ⟨f, hf⟩ := p_ev_iff.mp ev1
    refine p_snd_call (scr := some (N, xs)) (r := (.inl (some (.int (nI 1))), w1, 0)) (mj := 99) (as := [.ref 0, .int (nI X1), .int (nI Y1), .ref 23, .ref 24]) (rest := []) C V (by
      rw [ts_stp (by decide +kernel : p_at 100 55 = some (.invokestatic 87))]
      rfl) (fun hm hcs => p_ct_of (p_fr D ty ad hst f) hst hm hcs hf) ⟨hcc, hss⟩ ?_ ?_
    · intro v hv
      cases hv
      refine p_snd_jump C V X hcc hss (pc1 := 63) (L1 := [.ref 999, .ref 0, .ref 23, .ref 24, .int (nI i)]) (st1 := []) (w1 := w1) (by
        rw [ts_stp (by decide +kernel : p_at 100 58 = some (.ifCond .ne 5))]
        rfl) ?_
      refine p_snd_jump C V X hcc hss (pc1 := 66) (L1 := [.ref 999, .ref 0, .ref 23, .ref 24, .int (nI (i + 1))]) (st1 := []) (w1 := w1) (by
        rw [ts_stp (by decide +kernel : p_at 100 63 = some (.iinc 4 1))]
        rw [← nI_add i 1]; rfl) ?_
      refine p_snd_jump C V X hcc hss (pc1 := 21) (L1 := [.ref 999, .ref 0, .ref 23, .ref 24, .int (nI (i + 1))]) (st1 := []) (w1 := w1) (by
        rw [ts_stp (by decide +kernel : p_at 100 66 = some (.goto (-45)))]
        rfl) ?_
      exact ih (i + 1) w1 n1 wv1 _ x1 cells slots (by omega) K1 hc hs
    · intro i0 hi0 hr0
      cases hr0
