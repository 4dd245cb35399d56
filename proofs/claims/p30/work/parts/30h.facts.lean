/-! WHAT HOLDS AS THE LAW BEGINS -/
theorem lo_kx : p_txT.all (fun q => decide (Cond.stringRef RX4 q.1 q.2 ∈ lw_tbl)) = true := by decide +kernel
theorem lo_kb : p_xB.all (fun w => decide (w ∈ lw_tbl)) = true := by decide +kernel
theorem lo_kn : decide (p_nst ∈ lw_tbl) = true := by decide +kernel
theorem lo_kl : (lo_nst.all fun w => decide (w ∈ lw_tbl)) = true := by decide +kernel
theorem lo_ks : (decide (Cond.isRef (.static Bundle.tN "UNASSIGNED_STACK" Bundle.steD) ∈ flatC (Jvm.Cond.and given_1 narrow_1)) && decide (Cond.isRef (.static Bundle.tN "SUPPRESSED_SENTINEL" Bundle.listD) ∈ flatC (Jvm.Cond.and given_1 narrow_1))) = true := by decide +kernel
theorem lo_kt : (decide (Cond.laysStatic Bundle.tN "UNASSIGNED_STACK" Bundle.steD ∈ lw_tbl) && decide (Cond.laysStatic Bundle.tN "SUPPRESSED_SENTINEL" Bundle.listD ∈ lw_tbl) && decide (Cond.initialized Bundle.tN ∈ lw_tbl)) = true := by decide +kernel
theorem lo_ka : (decide (Cond.arrayClass .byte ∈ lw_tbl) && decide (Cond.arrayClass .int ∈ lw_tbl) && decide (Cond.arrayClass .long ∈ lw_tbl) && decide (Cond.arrayClass .boolean ∈ lw_tbl)) = true := by decide +kernel
theorem lo_ki : (decide (Cond.instantiable RX0 8 ∈ lw_tbl) && decide (Cond.instantiable RX1 2 ∈ lw_tbl) && decide (Cond.instantiable RX2 1 ∈ lw_tbl) && decide (Cond.instantiable RX3 2 ∈ lw_tbl) && decide (Cond.instantiable RX4 8 ∈ lw_tbl) ) = true := by decide +kernel
theorem lo_big {w : Cond} (h : w ∈ p_big) : w ∈ lw_tbl := (List.mem_filter.mp h).1
section At
variable {p : Program} {s : State} {m : MethodId} {meth : Method} {c : Code} {b L : Nat} {xs : Nat → Int32}
theorem lo_xx (C0 : lw_At p s m meth c b L xs) : p_xx (fun q : Nat => s.heap.size ≤ q) s s.heap := by
  obtain ⟨hx, hb, hr, hml, hown, hts, hX, hbl, hlocks, hgv, htab⟩ := C0
  have hfl := flat_of_before _ hgv
  have hA : ∀ a : Nat, a < s.heap.size → ¬ (fun q : Nat => s.heap.size ≤ q) a := fun a h => Nat.not_le.mpr h
  have hi := lo_ki
  simp only [Bool.and_eq_true, decide_eq_true_eq] at hi
  obtain ⟨cC, kC, hfc, -⟩ := Cond.instantiable_spec (hts _ hi.2)
  have hs := lo_ks
  simp only [Bool.and_eq_true, decide_eq_true_eq] at hs
  have ht := lo_kt
  simp only [Bool.and_eq_true, decide_eq_true_eq] at ht
  refine ⟨fun q hq => ?_, vx_Zqof (hts _ ht.1.1) (hts _ ht.2) (hfl _ hs.1) hA, vx_Zqof (hts _ ht.1.2) (hts _ ht.2) (hfl _ hs.2) hA, fun w hw => ?_, ?_, fun E hE F hF hEF => ?_⟩
  · have h1 := of_decide_eq_true (List.all_eq_true.mp lo_kx q hq)
    have h2 := hts _ h1
    obtain ⟨k, cf, i, a, -, -, -, -, -, hev⟩ := Cond.stringRef_spec (first := _) hfc h2
    exact ⟨a, vk_R.of h2 hev⟩
  · exact va_Nw.of (p_xB_on w hw) (hts _ (of_decide_eq_true (List.all_eq_true.mp lo_kb w hw)))
  · exact va_Nw.of rfl (hts _ (of_decide_eq_true lo_kn))
  · exact absurd hE (Nat.not_lt_zero E)
theorem lo_arr {args : Array Value} {fty : FieldType} (h : (Cond.arrayClass fty).before args s = true) : ∃ cA : ClassId, ArrOfT s cA fty ∧ s.vm.findClass ("[" ++ fty.toString) = some cA := by
  obtain ⟨cA, kA, comp, h1, h2, h3⟩ := Cond.arrayClass_spec h
  exact ⟨cA, fun n z => ⟨fun k h => (by cases h), kA, h2, comp, h3⟩, h1⟩
theorem lo_K (C0 : lw_At p s m meth c b L xs) : ∃ (D : va_G) (ty : Nat → ClassId), va_K D vwCl (p_tys ty) s := by
  obtain ⟨hx, hb, hr, hml, hown, hts, hX, hbl, hlocks, hgv, htab⟩ := C0
  have hi := lo_ki
  simp only [Bool.and_eq_true, decide_eq_true_eq] at hi
  obtain ⟨⟨⟨⟨i0, i1⟩, i2⟩, i3⟩, i4⟩ := hi
  have hin : ∀ k, k < 5 → ∀ w ∈ u_ws (p_nm k) (p_TT k) (p_NN k), w ∈ lw_tbl := fun k hk w hw => lo_big (p_layc hk w hw)
  obtain ⟨c0, s0, k0⟩ := u_known (C := RX0) (T := TX0) (N := 8) hts (hin 0 (by decide)) (hts _ i0)
  obtain ⟨c1, s1, k1⟩ := u_known (C := RX1) (T := TX1) (N := 2) hts (hin 1 (by decide)) (hts _ i1)
  obtain ⟨c2, s2, k2⟩ := u_known (C := RX2) (T := TX2) (N := 1) hts (hin 2 (by decide)) (hts _ i2)
  obtain ⟨c3, s3, k3⟩ := u_known (C := RX3) (T := TX3) (N := 2) hts (hin 3 (by decide)) (hts _ i3)
  obtain ⟨c4, s4, k4⟩ := u_known (C := RX4) (T := TX4) (N := 8) hts (hin 4 (by decide)) (hts _ i4)
  have ha := lo_ka
  simp only [Bool.and_eq_true, decide_eq_true_eq] at ha
  obtain ⟨⟨⟨a0, a1⟩, a2⟩, a3⟩ := ha
  obtain ⟨t0, b0, d0⟩ := lo_arr (hts _ a0)
  obtain ⟨t1, b1, d1⟩ := lo_arr (hts _ a1)
  obtain ⟨t2, b2, d2⟩ := lo_arr (hts _ a2)
  obtain ⟨t3, b3, d3⟩ := lo_arr (hts _ a3)
  refine ⟨(fun k => match k with | 0 => c0 | 1 => c1 | 2 => c2 | 3 => c3 | _ => c4, fun k => match k with | 0 => s0 | 1 => s1 | 2 => s2 | 3 => s3 | _ => s4), fun k => match k with | 0 => t0 | 1 => t1 | 2 => t2 | _ => t3, ?_, ?_⟩
  · intro k q hq
    match k, hq with
    | 0, hq => cases hq; exact k0
    | 1, hq => cases hq; exact k1
    | 2, hq => cases hq; exact k2
    | 3, hq => cases hq; exact k3
    | 4, hq => cases hq; exact k4
    | k + 5, hq => simp [vwCl] at hq
  · intro k q hq
    match k, hq with
    | 0, hq => cases hq; exact ⟨b0, d0⟩
    | 1, hq => cases hq; exact ⟨b1, d1⟩
    | 2, hq => cases hq; exact ⟨b2, d2⟩
    | 3, hq => cases hq; exact ⟨b3, d3⟩
    | k + 4, hq => simp [p_tys] at hq
theorem lo_N0 (C0 : lw_At p s m meth c b L xs) : lo_N s := by
  obtain ⟨hx, hb, hr, hml, hown, hts, -⟩ := C0
  intro w hw
  have h := hts _ (of_decide_eq_true (List.all_eq_true.mp lo_kl w hw))
  obtain ⟨a, i, x, y, rfl⟩ := lo_nst_k w hw
  exact va_Nw.of rfl h
end At
/-- the object as it is made -/
def lo_wS0 : pW := (fun o k => if o = 1 ∧ k = 1 then 8 else 0, fun _ _ => 0, fun _ _ => 0)
theorem lo_KS : q_K 8 0 (fun _ => false) (fun _ => 0) lo_wS0 := by
  refine ⟨⟨rfl, rfl, by decide, by decide, fun i _ => rfl, fun _ _ => rfl⟩, ⟨Or.inr (Or.inl rfl), rfl, fun _ _ => rfl, fun _ _ _ h => absurd h Bool.false_ne_true, fun _ _ _ h => absurd h Bool.false_ne_true⟩, rfl⟩
