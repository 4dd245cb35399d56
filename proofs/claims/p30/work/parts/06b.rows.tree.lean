/-! what the instructions of LiftingWorkshop$Tree do, written by wip/whole/gen/rules.py -/
-- 30: width
theorem M30 :
  (∀ (scr : pX) (w : pW), p_ev scr 30 0 [.ref 1] [] w = p_ev scr 30 1 [.ref 1] [.ref 1] w) ∧
  (∀ (scr : pX) (w : pW), p_ev scr 30 1 [.ref 1] [.ref 1] w = p_ev scr 30 4 [.ref 1] [.int (w.1 1 1)] w) ∧
  (∀ (scr : pX) (w : pW) (s0 : Int32), p_ev scr 30 4 [.ref 1] [.int s0] w = some (.inl (some (.int s0)), w, 0)) :=
  ⟨fun _ _ => p_r (by decide +kernel : p_at 30 0 = some (.aload_n 0)) rfl,
  fun _ _ => p_rgf (f := none) (by decide +kernel : p_at 30 1 = some (.getfield 15)) (by decide +kernel : p_fld (p_own 30) 15 = some (3, 1)) (rfl : p_ob 1 = some (.inr (3, [some 18, none]))) rfl,
  fun _ _ _ => p_riret (by decide +kernel : p_at 30 4 = some (.ireturn)) (by decide +kernel)⟩
-- 31: plant
theorem M31 :
  (∀ (scr : pX) (w : pW) (x1 : Int32), p_ev scr 31 0 [.ref 1, .int x1] [] w = p_ev scr 31 1 [.ref 1, .int x1] [.ref 1] w) ∧
  (∀ (scr : pX) (w : pW) (x1 : Int32), p_ev scr 31 1 [.ref 1, .int x1] [.ref 1] w = p_ev scr 31 2 [.ref 1, .int x1] [.int x1, .ref 1] w) ∧
  (∀ (scr : pX) (w : pW) (x1 : Int32) (s0 : Int32), p_ev scr 31 2 [.ref 1, .int x1] [.int s0, .ref 1] w = p_ev scr 31 5 [.ref 1, .int x1] [] (p_u w.1 1 1 s0, w.2)) ∧
  (∀ (scr : pX) (w : pW) (x1 : Int32), p_ev scr 31 5 [.ref 1, .int x1] [] w = p_ev scr 31 6 [.ref 1, .int x1] [.ref 1] w) ∧
  (∀ (scr : pX) (w : pW) (x1 : Int32), p_ev scr 31 6 [.ref 1, .int x1] [.ref 1] w = p_ev scr 31 7 [.ref 1, .int x1] [.int (nI 1), .ref 1] w) ∧
  (∀ (scr : pX) (w : pW) (x1 : Int32) (s0 : Int32), p_ev scr 31 7 [.ref 1, .int x1] [.int s0, .ref 1] w = p_bnd scr 31 7 10 [.ref 1, .int x1] [] (p_ev none 36 0 [.ref 1, .int s0, p_U] [] w)) ∧
  (∀ (scr : pX) (w : pW) (x1 : Int32), p_ev scr 31 10 [.ref 1, .int x1] [] w = some (.inl none, w, 0)) :=
  ⟨fun _ _ _ => p_r (by decide +kernel : p_at 31 0 = some (.aload_n 0)) rfl,
  fun _ _ _ => p_r (by decide +kernel : p_at 31 1 = some (.iload_n 1)) rfl,
  fun _ _ _ _ => p_rpf (by decide +kernel : p_at 31 2 = some (.putfield 15)) (by decide +kernel : p_fld (p_own 31) 15 = some (3, 1)) (rfl : p_ob 1 = some (.inr (3, [some 18, none]))) rfl,
  fun _ _ _ => p_r (by decide +kernel : p_at 31 5 = some (.aload_n 0)) rfl,
  fun _ _ _ => p_r (by decide +kernel : p_at 31 6 = some (.iconst 1)) rfl,
  fun _ _ _ _ => p_rcv (nl := 3) (by decide +kernel : p_at 31 7 = some (.invokevirtual 19)) (by decide +kernel : p_inv (p_own 31) 19 = some (1, 36, 2)) (by decide +kernel) (rfl : p_ob 1 = some (.inr (3, [some 18, none]))) rfl rfl (Nat.le_of_ble_eq_true rfl) (Nat.le_of_ble_eq_true rfl) (Nat.le_of_ble_eq_true rfl) rfl,
  fun _ _ _ => p_rvret (by decide +kernel : p_at 31 10 = some (.return_)) (by decide +kernel)⟩
-- 32: exists
theorem M32 :
  (∀ (scr : pX) (w : pW) (x1 : Int32), p_ev scr 32 0 [.ref 1, .int x1] [] w = p_ev scr 32 1 [.ref 1, .int x1] [.int x1] w) ∧
  (∀ (scr : pX) (w : pW) (x1 : Int32) (s0 : Int32), p_ev scr 32 1 [.ref 1, .int x1] [.int s0] w = p_ev scr 32 2 [.ref 1, .int x1] [.int (nI 1), .int s0] w) ∧
  (∀ (scr : pX) (w : pW) (x1 : Int32) (s0 : Int32) (s1 : Int32), p_ev scr 32 2 [.ref 1, .int x1] [.int s0, .int s1] w = if s1 = s0 then p_ev scr 32 26 [.ref 1, .int x1] [] w else p_ev scr 32 5 [.ref 1, .int x1] [] w) ∧
  (∀ (scr : pX) (w : pW) (x1 : Int32), p_ev scr 32 5 [.ref 1, .int x1] [] w = p_ev scr 32 6 [.ref 1, .int x1] [.int x1] w) ∧
  (∀ (scr : pX) (w : pW) (x1 : Int32) (s0 : Int32), p_ev scr 32 6 [.ref 1, .int x1] [.int s0] w = p_ev scr 32 7 [.ref 1, .int x1] [.int (nI 1), .int s0] w) ∧
  (∀ (scr : pX) (w : pW) (x1 : Int32) (s0 : Int32) (s1 : Int32), p_ev scr 32 7 [.ref 1, .int x1] [.int s0, .int s1] w = if s1 ≤ s0 then p_ev scr 32 30 [.ref 1, .int x1] [] w else p_ev scr 32 10 [.ref 1, .int x1] [] w) ∧
  (∀ (scr : pX) (w : pW) (x1 : Int32), p_ev scr 32 10 [.ref 1, .int x1] [] w = p_ev scr 32 11 [.ref 1, .int x1] [.int x1] w) ∧
  (∀ (scr : pX) (w : pW) (x1 : Int32) (s0 : Int32), p_ev scr 32 11 [.ref 1, .int x1] [.int s0] w = p_ev scr 32 13 [.ref 1, .int x1] [.int (nI 16), .int s0] w) ∧
  (∀ (scr : pX) (w : pW) (x1 : Int32) (s0 : Int32) (s1 : Int32), p_ev scr 32 13 [.ref 1, .int x1] [.int s0, .int s1] w = if s0 ≤ s1 then p_ev scr 32 30 [.ref 1, .int x1] [] w else p_ev scr 32 16 [.ref 1, .int x1] [] w) ∧
  (∀ (scr : pX) (w : pW) (x1 : Int32), p_ev scr 32 16 [.ref 1, .int x1] [] w = p_ev scr 32 17 [.ref 1, .int x1] [.ref 1] w) ∧
  (∀ (scr : pX) (w : pW) (x1 : Int32), p_ev scr 32 17 [.ref 1, .int x1] [.ref 1] w = p_ev scr 32 18 [.ref 1, .int x1] [.int x1, .ref 1] w) ∧
  (∀ (scr : pX) (w : pW) (x1 : Int32) (s0 : Int32), p_ev scr 32 18 [.ref 1, .int x1] [.int s0, .ref 1] w = p_ev scr 32 19 [.ref 1, .int x1] [.int (nI 2), .int s0, .ref 1] w) ∧
  (∀ (scr : pX) (w : pW) (x1 : Int32) (s0 : Int32) (s1 : Int32), ¬ s0 = 0 → p_ev scr 32 19 [.ref 1, .int x1] [.int s0, .int s1, .ref 1] w = p_ev scr 32 20 [.ref 1, .int x1] [.int (s1 / s0), .ref 1] w) ∧
  (∀ (scr : pX) (w : pW) (x1 : Int32) (s0 : Int32), p_ev scr 32 20 [.ref 1, .int x1] [.int s0, .ref 1] w = p_bnd scr 32 20 23 [.ref 1, .int x1] [] (p_ev none 33 0 [.ref 1, .int s0] [] w)) ∧
  (∀ (scr : pX) (w : pW) (x1 : Int32) (s0 : Int32), p_ev scr 32 23 [.ref 1, .int x1] [.int s0] w = if s0 = nI 0 then p_ev scr 32 30 [.ref 1, .int x1] [] w else p_ev scr 32 26 [.ref 1, .int x1] [] w) ∧
  (∀ (scr : pX) (w : pW) (x1 : Int32), p_ev scr 32 26 [.ref 1, .int x1] [] w = p_ev scr 32 27 [.ref 1, .int x1] [.int (nI 1)] w) ∧
  (∀ (scr : pX) (w : pW) (x1 : Int32) (s0 : Int32), p_ev scr 32 27 [.ref 1, .int x1] [.int s0] w = p_ev scr 32 31 [.ref 1, .int x1] [.int s0] w) ∧
  (∀ (scr : pX) (w : pW) (x1 : Int32), p_ev scr 32 30 [.ref 1, .int x1] [] w = p_ev scr 32 31 [.ref 1, .int x1] [.int (nI 0)] w) ∧
  (∀ (scr : pX) (w : pW) (x1 : Int32) (s0 : Int32), narrow .boolean (.int s0) = .int s0 → p_ev scr 32 31 [.ref 1, .int x1] [.int s0] w = some (.inl (some (.int s0)), w, 0)) :=
  ⟨fun _ _ _ => p_r (by decide +kernel : p_at 32 0 = some (.iload_n 1)) rfl,
  fun _ _ _ _ => p_r (by decide +kernel : p_at 32 1 = some (.iconst 1)) rfl,
  fun _ _ _ _ _ => p_rb2 (c := fun x y => decide (x = y)) (off := 24) (by decide +kernel : p_at 32 2 = some (.if_icmp .eq 24)) (by decide +kernel) rfl rfl rfl,
  fun _ _ _ => p_r (by decide +kernel : p_at 32 5 = some (.iload_n 1)) rfl,
  fun _ _ _ _ => p_r (by decide +kernel : p_at 32 6 = some (.iconst 1)) rfl,
  fun _ _ _ _ _ => p_rb2 (c := fun x y => decide (x ≤ y)) (off := 23) (by decide +kernel : p_at 32 7 = some (.if_icmp .le 23)) (by decide +kernel) rfl rfl rfl,
  fun _ _ _ => p_r (by decide +kernel : p_at 32 10 = some (.iload_n 1)) rfl,
  fun _ _ _ _ => p_r (by decide +kernel : p_at 32 11 = some (.bipush 16)) rfl,
  fun _ _ _ _ _ => p_rb2 (c := fun x y => decide (y ≤ x)) (off := 17) (by decide +kernel : p_at 32 13 = some (.if_icmp .ge 17)) (by decide +kernel) rfl rfl rfl,
  fun _ _ _ => p_r (by decide +kernel : p_at 32 16 = some (.aload_n 0)) rfl,
  fun _ _ _ => p_r (by decide +kernel : p_at 32 17 = some (.iload_n 1)) rfl,
  fun _ _ _ _ => p_r (by decide +kernel : p_at 32 18 = some (.iconst 2)) rfl,
  fun _ _ _ _ _ hp => p_ridiv (by decide +kernel : p_at 32 19 = some (.idiv)) hp,
  fun _ _ _ _ => p_rcv (nl := 2) (by decide +kernel : p_at 32 20 = some (.invokevirtual 23)) (by decide +kernel : p_inv (p_own 32) 23 = some (1, 33, 2)) (by decide +kernel) (rfl : p_ob 1 = some (.inr (3, [some 18, none]))) rfl rfl (Nat.le_of_ble_eq_true rfl) (Nat.le_of_ble_eq_true rfl) (Nat.le_of_ble_eq_true rfl) rfl,
  fun _ _ _ _ => p_rb1 (c := fun x => decide (x = 0)) (off := 7) (by decide +kernel : p_at 32 23 = some (.ifCond .eq 7)) (by decide +kernel) rfl rfl rfl,
  fun _ _ _ => p_r (by decide +kernel : p_at 32 26 = some (.iconst 1)) rfl,
  fun _ _ _ _ => p_rgo (by decide +kernel : p_at 32 27 = some (.goto 4)) (by decide +kernel),
  fun _ _ _ => p_r (by decide +kernel : p_at 32 30 = some (.iconst 0)) rfl,
  fun _ _ _ _ hp => p_rzret (by decide +kernel : p_at 32 31 = some (.ireturn)) (by decide +kernel) hp⟩
-- 33: hasChildren
theorem M33 :
  (∀ (scr : pX) (w : pW) (x1 : Int32), p_ev scr 33 0 [.ref 1, .int x1] [] w = p_ev scr 33 1 [.ref 1, .int x1] [.int x1] w) ∧
  (∀ (scr : pX) (w : pW) (x1 : Int32) (s0 : Int32), p_ev scr 33 1 [.ref 1, .int x1] [.int s0] w = if s0 < nI 0 then p_ev scr 33 26 [.ref 1, .int x1] [] w else p_ev scr 33 4 [.ref 1, .int x1] [] w) ∧
  (∀ (scr : pX) (w : pW) (x1 : Int32), p_ev scr 33 4 [.ref 1, .int x1] [] w = p_ev scr 33 5 [.ref 1, .int x1] [.int x1] w) ∧
  (∀ (scr : pX) (w : pW) (x1 : Int32) (s0 : Int32), p_ev scr 33 5 [.ref 1, .int x1] [.int s0] w = p_ev scr 33 6 [.ref 1, .int x1] [.ref 1, .int s0] w) ∧
  (∀ (scr : pX) (w : pW) (x1 : Int32) (s1 : Int32), p_ev scr 33 6 [.ref 1, .int x1] [.ref 1, .int s1] w = p_ev scr 33 9 [.ref 1, .int x1] [.ref 18, .int s1] w) ∧
  (∀ (scr : pX) (w : pW) (x1 : Int32) (s1 : Int32), p_ev scr 33 9 [.ref 1, .int x1] [.ref 18, .int s1] w = p_ev scr 33 10 [.ref 1, .int x1] [.int (nI 8), .int s1] w) ∧
  (∀ (scr : pX) (w : pW) (x1 : Int32) (s0 : Int32) (s1 : Int32), p_ev scr 33 10 [.ref 1, .int x1] [.int s0, .int s1] w = if s0 ≤ s1 then p_ev scr 33 26 [.ref 1, .int x1] [] w else p_ev scr 33 13 [.ref 1, .int x1] [] w) ∧
  (∀ (scr : pX) (w : pW) (x1 : Int32), p_ev scr 33 13 [.ref 1, .int x1] [] w = p_ev scr 33 14 [.ref 1, .int x1] [.ref 1] w) ∧
  (∀ (scr : pX) (w : pW) (x1 : Int32), p_ev scr 33 14 [.ref 1, .int x1] [.ref 1] w = p_ev scr 33 17 [.ref 1, .int x1] [.ref 18] w) ∧
  (∀ (scr : pX) (w : pW) (x1 : Int32), p_ev scr 33 17 [.ref 1, .int x1] [.ref 18] w = p_ev scr 33 18 [.ref 1, .int x1] [.int x1, .ref 18] w) ∧
  (∀ (scr : pX) (w : pW) (x1 : Int32) (s0 : Int32), p_out s0 8 = false → p_ev scr 33 18 [.ref 1, .int x1] [.int s0, .ref 18] w = p_ev scr 33 19 [.ref 1, .int x1] [.int (w.2.2 18 s0.toNatClampNeg)] w) ∧
  (∀ (scr : pX) (w : pW) (x1 : Int32) (s0 : Int32), p_ev scr 33 19 [.ref 1, .int x1] [.int s0] w = if s0 = nI 0 then p_ev scr 33 26 [.ref 1, .int x1] [] w else p_ev scr 33 22 [.ref 1, .int x1] [] w) ∧
  (∀ (scr : pX) (w : pW) (x1 : Int32), p_ev scr 33 22 [.ref 1, .int x1] [] w = p_ev scr 33 23 [.ref 1, .int x1] [.int (nI 1)] w) ∧
  (∀ (scr : pX) (w : pW) (x1 : Int32) (s0 : Int32), p_ev scr 33 23 [.ref 1, .int x1] [.int s0] w = p_ev scr 33 27 [.ref 1, .int x1] [.int s0] w) ∧
  (∀ (scr : pX) (w : pW) (x1 : Int32), p_ev scr 33 26 [.ref 1, .int x1] [] w = p_ev scr 33 27 [.ref 1, .int x1] [.int (nI 0)] w) ∧
  (∀ (scr : pX) (w : pW) (x1 : Int32) (s0 : Int32), narrow .boolean (.int s0) = .int s0 → p_ev scr 33 27 [.ref 1, .int x1] [.int s0] w = some (.inl (some (.int s0)), w, 0)) :=
  ⟨fun _ _ _ => p_r (by decide +kernel : p_at 33 0 = some (.iload_n 1)) rfl,
  fun _ _ _ _ => p_rb1 (c := fun x => decide (x < 0)) (off := 25) (by decide +kernel : p_at 33 1 = some (.ifCond .lt 25)) (by decide +kernel) rfl rfl rfl,
  fun _ _ _ => p_r (by decide +kernel : p_at 33 4 = some (.iload_n 1)) rfl,
  fun _ _ _ _ => p_r (by decide +kernel : p_at 33 5 = some (.aload_n 0)) rfl,
  fun _ _ _ _ => p_rgf (f := some 18) (by decide +kernel : p_at 33 6 = some (.getfield 9)) (by decide +kernel : p_fld (p_own 33) 9 = some (3, 0)) (rfl : p_ob 1 = some (.inr (3, [some 18, none]))) rfl,
  fun _ _ _ _ => p_ralen (by decide +kernel : p_at 33 9 = some (.arraylength)) (rfl : p_ob 18 = some (.inl (3, 8))),
  fun _ _ _ _ _ => p_rb2 (c := fun x y => decide (y ≤ x)) (off := 16) (by decide +kernel : p_at 33 10 = some (.if_icmp .ge 16)) (by decide +kernel) rfl rfl rfl,
  fun _ _ _ => p_r (by decide +kernel : p_at 33 13 = some (.aload_n 0)) rfl,
  fun _ _ _ => p_rgf (f := some 18) (by decide +kernel : p_at 33 14 = some (.getfield 9)) (by decide +kernel : p_fld (p_own 33) 9 = some (3, 0)) (rfl : p_ob 1 = some (.inr (3, [some 18, none]))) rfl,
  fun _ _ _ => p_r (by decide +kernel : p_at 33 17 = some (.iload_n 1)) rfl,
  fun _ _ _ _ hp => p_rbald (by decide +kernel : p_at 33 18 = some (.baload)) (rfl : p_ob 18 = some (.inl (3, 8))) (by decide) hp,
  fun _ _ _ _ => p_rb1 (c := fun x => decide (x = 0)) (off := 7) (by decide +kernel : p_at 33 19 = some (.ifCond .eq 7)) (by decide +kernel) rfl rfl rfl,
  fun _ _ _ => p_r (by decide +kernel : p_at 33 22 = some (.iconst 1)) rfl,
  fun _ _ _ _ => p_rgo (by decide +kernel : p_at 33 23 = some (.goto 4)) (by decide +kernel),
  fun _ _ _ => p_r (by decide +kernel : p_at 33 26 = some (.iconst 0)) rfl,
  fun _ _ _ _ hp => p_rzret (by decide +kernel : p_at 33 27 = some (.ireturn)) (by decide +kernel) hp⟩
-- 34: canBeSplit
theorem M34 :
  (∀ (scr : pX) (w : pW) (x1 : Int32), p_ev scr 34 0 [.ref 1, .int x1] [] w = p_ev scr 34 1 [.ref 1, .int x1] [.ref 1] w) ∧
  (∀ (scr : pX) (w : pW) (x1 : Int32), p_ev scr 34 1 [.ref 1, .int x1] [.ref 1] w = p_ev scr 34 2 [.ref 1, .int x1] [.int x1, .ref 1] w) ∧
  (∀ (scr : pX) (w : pW) (x1 : Int32) (s0 : Int32), p_ev scr 34 2 [.ref 1, .int x1] [.int s0, .ref 1] w = p_bnd scr 34 2 5 [.ref 1, .int x1] [] (p_ev none 32 0 [.ref 1, .int s0] [] w)) ∧
  (∀ (scr : pX) (w : pW) (x1 : Int32) (s0 : Int32), p_ev scr 34 5 [.ref 1, .int x1] [.int s0] w = if s0 = nI 0 then p_ev scr 34 35 [.ref 1, .int x1] [] w else p_ev scr 34 8 [.ref 1, .int x1] [] w) ∧
  (∀ (scr : pX) (w : pW) (x1 : Int32), p_ev scr 34 8 [.ref 1, .int x1] [] w = p_ev scr 34 9 [.ref 1, .int x1] [.ref 1] w) ∧
  (∀ (scr : pX) (w : pW) (x1 : Int32), p_ev scr 34 9 [.ref 1, .int x1] [.ref 1] w = p_ev scr 34 10 [.ref 1, .int x1] [.int x1, .ref 1] w) ∧
  (∀ (scr : pX) (w : pW) (x1 : Int32) (s0 : Int32), p_ev scr 34 10 [.ref 1, .int x1] [.int s0, .ref 1] w = p_bnd scr 34 10 13 [.ref 1, .int x1] [] (p_ev none 33 0 [.ref 1, .int s0] [] w)) ∧
  (∀ (scr : pX) (w : pW) (x1 : Int32) (s0 : Int32), p_ev scr 34 13 [.ref 1, .int x1] [.int s0] w = if ¬ s0 = nI 0 then p_ev scr 34 35 [.ref 1, .int x1] [] w else p_ev scr 34 16 [.ref 1, .int x1] [] w) ∧
  (∀ (scr : pX) (w : pW) (x1 : Int32), p_ev scr 34 16 [.ref 1, .int x1] [] w = p_ev scr 34 17 [.ref 1, .int x1] [.int x1] w) ∧
  (∀ (scr : pX) (w : pW) (x1 : Int32) (s0 : Int32), p_ev scr 34 17 [.ref 1, .int x1] [.int s0] w = p_ev scr 34 19 [.ref 1, .int x1] [.int (nI 8), .int s0] w) ∧
  (∀ (scr : pX) (w : pW) (x1 : Int32) (s0 : Int32) (s1 : Int32), p_ev scr 34 19 [.ref 1, .int x1] [.int s0, .int s1] w = if s0 ≤ s1 then p_ev scr 34 35 [.ref 1, .int x1] [] w else p_ev scr 34 22 [.ref 1, .int x1] [] w) ∧
  (∀ (scr : pX) (w : pW) (x1 : Int32), p_ev scr 34 22 [.ref 1, .int x1] [] w = p_ev scr 34 23 [.ref 1, .int x1] [.ref 1] w) ∧
  (∀ (scr : pX) (w : pW) (x1 : Int32), p_ev scr 34 23 [.ref 1, .int x1] [.ref 1] w = p_ev scr 34 24 [.ref 1, .int x1] [.int x1, .ref 1] w) ∧
  (∀ (scr : pX) (w : pW) (x1 : Int32) (s0 : Int32), p_ev scr 34 24 [.ref 1, .int x1] [.int s0, .ref 1] w = p_bnd scr 34 24 27 [.ref 1, .int x1] [] (p_ev none 39 0 [.ref 1, .int s0] [] w)) ∧
  (∀ (scr : pX) (w : pW) (x1 : Int32) (s0 : Int32), p_ev scr 34 27 [.ref 1, .int x1] [.int s0] w = p_ev scr 34 28 [.ref 1, .int x1] [.int (nI 2), .int s0] w) ∧
  (∀ (scr : pX) (w : pW) (x1 : Int32) (s0 : Int32) (s1 : Int32), p_ev scr 34 28 [.ref 1, .int x1] [.int s0, .int s1] w = if s1 < s0 then p_ev scr 34 35 [.ref 1, .int x1] [] w else p_ev scr 34 31 [.ref 1, .int x1] [] w) ∧
  (∀ (scr : pX) (w : pW) (x1 : Int32), p_ev scr 34 31 [.ref 1, .int x1] [] w = p_ev scr 34 32 [.ref 1, .int x1] [.int (nI 1)] w) ∧
  (∀ (scr : pX) (w : pW) (x1 : Int32) (s0 : Int32), p_ev scr 34 32 [.ref 1, .int x1] [.int s0] w = p_ev scr 34 36 [.ref 1, .int x1] [.int s0] w) ∧
  (∀ (scr : pX) (w : pW) (x1 : Int32), p_ev scr 34 35 [.ref 1, .int x1] [] w = p_ev scr 34 36 [.ref 1, .int x1] [.int (nI 0)] w) ∧
  (∀ (scr : pX) (w : pW) (x1 : Int32) (s0 : Int32), narrow .boolean (.int s0) = .int s0 → p_ev scr 34 36 [.ref 1, .int x1] [.int s0] w = some (.inl (some (.int s0)), w, 0)) :=
  ⟨fun _ _ _ => p_r (by decide +kernel : p_at 34 0 = some (.aload_n 0)) rfl,
  fun _ _ _ => p_r (by decide +kernel : p_at 34 1 = some (.iload_n 1)) rfl,
  fun _ _ _ _ => p_rcv (nl := 2) (by decide +kernel : p_at 34 2 = some (.invokevirtual 27)) (by decide +kernel : p_inv (p_own 34) 27 = some (1, 32, 2)) (by decide +kernel) (rfl : p_ob 1 = some (.inr (3, [some 18, none]))) rfl rfl (Nat.le_of_ble_eq_true rfl) (Nat.le_of_ble_eq_true rfl) (Nat.le_of_ble_eq_true rfl) rfl,
  fun _ _ _ _ => p_rb1 (c := fun x => decide (x = 0)) (off := 30) (by decide +kernel : p_at 34 5 = some (.ifCond .eq 30)) (by decide +kernel) rfl rfl rfl,
  fun _ _ _ => p_r (by decide +kernel : p_at 34 8 = some (.aload_n 0)) rfl,
  fun _ _ _ => p_r (by decide +kernel : p_at 34 9 = some (.iload_n 1)) rfl,
  fun _ _ _ _ => p_rcv (nl := 2) (by decide +kernel : p_at 34 10 = some (.invokevirtual 23)) (by decide +kernel : p_inv (p_own 34) 23 = some (1, 33, 2)) (by decide +kernel) (rfl : p_ob 1 = some (.inr (3, [some 18, none]))) rfl rfl (Nat.le_of_ble_eq_true rfl) (Nat.le_of_ble_eq_true rfl) (Nat.le_of_ble_eq_true rfl) rfl,
  fun _ _ _ _ => p_rb1 (c := fun x => decide (¬ x = 0)) (off := 22) (by decide +kernel : p_at 34 13 = some (.ifCond .ne 22)) (by decide +kernel) rfl rfl rfl,
  fun _ _ _ => p_r (by decide +kernel : p_at 34 16 = some (.iload_n 1)) rfl,
  fun _ _ _ _ => p_r (by decide +kernel : p_at 34 17 = some (.bipush 8)) rfl,
  fun _ _ _ _ _ => p_rb2 (c := fun x y => decide (y ≤ x)) (off := 16) (by decide +kernel : p_at 34 19 = some (.if_icmp .ge 16)) (by decide +kernel) rfl rfl rfl,
  fun _ _ _ => p_r (by decide +kernel : p_at 34 22 = some (.aload_n 0)) rfl,
  fun _ _ _ => p_r (by decide +kernel : p_at 34 23 = some (.iload_n 1)) rfl,
  fun _ _ _ _ => p_rcv (nl := 2) (by decide +kernel : p_at 34 24 = some (.invokevirtual 30)) (by decide +kernel : p_inv (p_own 34) 30 = some (1, 39, 2)) (by decide +kernel) (rfl : p_ob 1 = some (.inr (3, [some 18, none]))) rfl rfl (Nat.le_of_ble_eq_true rfl) (Nat.le_of_ble_eq_true rfl) (Nat.le_of_ble_eq_true rfl) rfl,
  fun _ _ _ _ => p_r (by decide +kernel : p_at 34 27 = some (.iconst 2)) rfl,
  fun _ _ _ _ _ => p_rb2 (c := fun x y => decide (x < y)) (off := 7) (by decide +kernel : p_at 34 28 = some (.if_icmp .lt 7)) (by decide +kernel) rfl rfl rfl,
  fun _ _ _ => p_r (by decide +kernel : p_at 34 31 = some (.iconst 1)) rfl,
  fun _ _ _ _ => p_rgo (by decide +kernel : p_at 34 32 = some (.goto 4)) (by decide +kernel),
  fun _ _ _ => p_r (by decide +kernel : p_at 34 35 = some (.iconst 0)) rfl,
  fun _ _ _ _ hp => p_rzret (by decide +kernel : p_at 34 36 = some (.ireturn)) (by decide +kernel) hp⟩
-- 35: giveChildren
theorem M35 :
  (∀ (scr : pX) (w : pW) (x1 : Int32), p_ev scr 35 0 [.ref 1, .int x1] [] w = p_ev scr 35 1 [.ref 1, .int x1] [.int x1] w) ∧
  (∀ (scr : pX) (w : pW) (x1 : Int32) (s0 : Int32), p_ev scr 35 1 [.ref 1, .int x1] [.int s0] w = if s0 < nI 0 then p_ev scr 35 20 [.ref 1, .int x1] [] w else p_ev scr 35 4 [.ref 1, .int x1] [] w) ∧
  (∀ (scr : pX) (w : pW) (x1 : Int32), p_ev scr 35 4 [.ref 1, .int x1] [] w = p_ev scr 35 5 [.ref 1, .int x1] [.int x1] w) ∧
  (∀ (scr : pX) (w : pW) (x1 : Int32) (s0 : Int32), p_ev scr 35 5 [.ref 1, .int x1] [.int s0] w = p_ev scr 35 6 [.ref 1, .int x1] [.ref 1, .int s0] w) ∧
  (∀ (scr : pX) (w : pW) (x1 : Int32) (s1 : Int32), p_ev scr 35 6 [.ref 1, .int x1] [.ref 1, .int s1] w = p_ev scr 35 9 [.ref 1, .int x1] [.ref 18, .int s1] w) ∧
  (∀ (scr : pX) (w : pW) (x1 : Int32) (s1 : Int32), p_ev scr 35 9 [.ref 1, .int x1] [.ref 18, .int s1] w = p_ev scr 35 10 [.ref 1, .int x1] [.int (nI 8), .int s1] w) ∧
  (∀ (scr : pX) (w : pW) (x1 : Int32) (s0 : Int32) (s1 : Int32), p_ev scr 35 10 [.ref 1, .int x1] [.int s0, .int s1] w = if s0 ≤ s1 then p_ev scr 35 20 [.ref 1, .int x1] [] w else p_ev scr 35 13 [.ref 1, .int x1] [] w) ∧
  (∀ (scr : pX) (w : pW) (x1 : Int32), p_ev scr 35 13 [.ref 1, .int x1] [] w = p_ev scr 35 14 [.ref 1, .int x1] [.ref 1] w) ∧
  (∀ (scr : pX) (w : pW) (x1 : Int32), p_ev scr 35 14 [.ref 1, .int x1] [.ref 1] w = p_ev scr 35 17 [.ref 1, .int x1] [.ref 18] w) ∧
  (∀ (scr : pX) (w : pW) (x1 : Int32), p_ev scr 35 17 [.ref 1, .int x1] [.ref 18] w = p_ev scr 35 18 [.ref 1, .int x1] [.int x1, .ref 18] w) ∧
  (∀ (scr : pX) (w : pW) (x1 : Int32) (s0 : Int32), p_ev scr 35 18 [.ref 1, .int x1] [.int s0, .ref 18] w = p_ev scr 35 19 [.ref 1, .int x1] [.int (nI 1), .int s0, .ref 18] w) ∧
  (∀ (scr : pX) (w : pW) (x1 : Int32) (s0 : Int32) (s1 : Int32), p_out s1 8 = false → p_ev scr 35 19 [.ref 1, .int x1] [.int s0, .int s1, .ref 18] w = p_ev scr 35 20 [.ref 1, .int x1] [] (w.1, w.2.1, p_u w.2.2 18 s1.toNatClampNeg (vp_nar .boolean s0))) ∧
  (∀ (scr : pX) (w : pW) (x1 : Int32), p_ev scr 35 20 [.ref 1, .int x1] [] w = some (.inl none, w, 0)) :=
  ⟨fun _ _ _ => p_r (by decide +kernel : p_at 35 0 = some (.iload_n 1)) rfl,
  fun _ _ _ _ => p_rb1 (c := fun x => decide (x < 0)) (off := 19) (by decide +kernel : p_at 35 1 = some (.ifCond .lt 19)) (by decide +kernel) rfl rfl rfl,
  fun _ _ _ => p_r (by decide +kernel : p_at 35 4 = some (.iload_n 1)) rfl,
  fun _ _ _ _ => p_r (by decide +kernel : p_at 35 5 = some (.aload_n 0)) rfl,
  fun _ _ _ _ => p_rgf (f := some 18) (by decide +kernel : p_at 35 6 = some (.getfield 9)) (by decide +kernel : p_fld (p_own 35) 9 = some (3, 0)) (rfl : p_ob 1 = some (.inr (3, [some 18, none]))) rfl,
  fun _ _ _ _ => p_ralen (by decide +kernel : p_at 35 9 = some (.arraylength)) (rfl : p_ob 18 = some (.inl (3, 8))),
  fun _ _ _ _ _ => p_rb2 (c := fun x y => decide (y ≤ x)) (off := 10) (by decide +kernel : p_at 35 10 = some (.if_icmp .ge 10)) (by decide +kernel) rfl rfl rfl,
  fun _ _ _ => p_r (by decide +kernel : p_at 35 13 = some (.aload_n 0)) rfl,
  fun _ _ _ => p_rgf (f := some 18) (by decide +kernel : p_at 35 14 = some (.getfield 9)) (by decide +kernel : p_fld (p_own 35) 9 = some (3, 0)) (rfl : p_ob 1 = some (.inr (3, [some 18, none]))) rfl,
  fun _ _ _ => p_r (by decide +kernel : p_at 35 17 = some (.iload_n 1)) rfl,
  fun _ _ _ _ => p_r (by decide +kernel : p_at 35 18 = some (.iconst 1)) rfl,
  fun _ _ _ _ _ hp => p_rbast (by decide +kernel : p_at 35 19 = some (.bastore)) (rfl : p_ob 18 = some (.inl (3, 8))) (by decide) hp,
  fun _ _ _ => p_rvret (by decide +kernel : p_at 35 20 = some (.return_)) (by decide +kernel)⟩
-- 36: takeChildren
theorem M36 :
  (∀ (scr : pX) (w : pW) (x1 : Int32), p_ev scr 36 0 [.ref 1, .int x1, p_U] [] w = p_ev scr 36 1 [.ref 1, .int x1, p_U] [.int (nI 1)] w) ∧
  (∀ (scr : pX) (w : pW) (x1 : Int32) (s0 : Int32), p_ev scr 36 1 [.ref 1, .int x1, p_U] [.int s0] w = p_ev scr 36 2 [.ref 1, .int x1, .int s0] [] w) ∧
  (∀ (scr : pX) (w : pW) (x1 : Int32) (x2 : Int32) (s0 : Int32), p_ev scr 36 3 [.ref 1, .int x1, .int x2] [.int s0] w = p_ev scr 36 4 [.ref 1, .int x1, .int x2] [.ref 1, .int s0] w) ∧
  (∀ (scr : pX) (w : pW) (x1 : Int32) (x2 : Int32) (s1 : Int32), p_ev scr 36 4 [.ref 1, .int x1, .int x2] [.ref 1, .int s1] w = p_ev scr 36 7 [.ref 1, .int x1, .int x2] [.ref 18, .int s1] w) ∧
  (∀ (scr : pX) (w : pW) (x1 : Int32) (x2 : Int32) (s1 : Int32), p_ev scr 36 7 [.ref 1, .int x1, .int x2] [.ref 18, .int s1] w = p_ev scr 36 8 [.ref 1, .int x1, .int x2] [.int (nI 8), .int s1] w) ∧
  (∀ (scr : pX) (w : pW) (x1 : Int32) (x2 : Int32) (s0 : Int32) (s1 : Int32), p_ev scr 36 8 [.ref 1, .int x1, .int x2] [.int s0, .int s1] w = if s0 ≤ s1 then p_ev scr 36 33 [.ref 1, .int x1, .int x2] [] w else p_ev scr 36 11 [.ref 1, .int x1, .int x2] [] w) ∧
  (∀ (scr : pX) (w : pW) (x1 : Int32) (x2 : Int32), p_ev scr 36 11 [.ref 1, .int x1, .int x2] [] w = p_ev scr 36 12 [.ref 1, .int x1, .int x2] [.ref 1] w) ∧
  (∀ (scr : pX) (w : pW) (x1 : Int32) (x2 : Int32), p_ev scr 36 12 [.ref 1, .int x1, .int x2] [.ref 1] w = p_ev scr 36 13 [.ref 1, .int x1, .int x2] [.int x2, .ref 1] w) ∧
  (∀ (scr : pX) (w : pW) (x1 : Int32) (x2 : Int32) (s0 : Int32), p_ev scr 36 13 [.ref 1, .int x1, .int x2] [.int s0, .ref 1] w = p_ev scr 36 14 [.ref 1, .int x1, .int x2] [.int x1, .int s0, .ref 1] w) ∧
  (∀ (scr : pX) (w : pW) (x1 : Int32) (x2 : Int32) (s0 : Int32) (s1 : Int32), p_ev scr 36 14 [.ref 1, .int x1, .int x2] [.int s0, .int s1, .ref 1] w = p_bnd scr 36 14 17 [.ref 1, .int x1, .int x2] [] (p_ev none 37 0 [.ref 1, .int s1, .int s0, p_U] [] w)) ∧
  (∀ (scr : pX) (w : pW) (x1 : Int32) (x2 : Int32) (s0 : Int32), p_ev scr 36 17 [.ref 1, .int x1, .int x2] [.int s0] w = if s0 = nI 0 then p_ev scr 36 27 [.ref 1, .int x1, .int x2] [] w else p_ev scr 36 20 [.ref 1, .int x1, .int x2] [] w) ∧
  (∀ (scr : pX) (w : pW) (x1 : Int32) (x2 : Int32), p_ev scr 36 20 [.ref 1, .int x1, .int x2] [] w = p_ev scr 36 21 [.ref 1, .int x1, .int x2] [.ref 1] w) ∧
  (∀ (scr : pX) (w : pW) (x1 : Int32) (x2 : Int32), p_ev scr 36 21 [.ref 1, .int x1, .int x2] [.ref 1] w = p_ev scr 36 24 [.ref 1, .int x1, .int x2] [.ref 18] w) ∧
  (∀ (scr : pX) (w : pW) (x1 : Int32) (x2 : Int32), p_ev scr 36 24 [.ref 1, .int x1, .int x2] [.ref 18] w = p_ev scr 36 25 [.ref 1, .int x1, .int x2] [.int x2, .ref 18] w) ∧
  (∀ (scr : pX) (w : pW) (x1 : Int32) (x2 : Int32) (s0 : Int32), p_ev scr 36 25 [.ref 1, .int x1, .int x2] [.int s0, .ref 18] w = p_ev scr 36 26 [.ref 1, .int x1, .int x2] [.int (nI 0), .int s0, .ref 18] w) ∧
  (∀ (scr : pX) (w : pW) (x1 : Int32) (x2 : Int32) (s0 : Int32) (s1 : Int32), p_out s1 8 = false → p_ev scr 36 26 [.ref 1, .int x1, .int x2] [.int s0, .int s1, .ref 18] w = p_ev scr 36 27 [.ref 1, .int x1, .int x2] [] (w.1, w.2.1, p_u w.2.2 18 s1.toNatClampNeg (vp_nar .boolean s0))) ∧
  (∀ (scr : pX) (w : pW) (x1 : Int32) (x2 : Int32), p_ev scr 36 27 [.ref 1, .int x1, .int x2] [] w = p_ev scr 36 30 [.ref 1, .int x1, .int (x2 + (nI 1))] [] w) ∧
  (∀ (scr : pX) (w : pW) (x1 : Int32) (x2 : Int32), p_ev scr 36 30 [.ref 1, .int x1, .int x2] [] w = p_ev scr 36 2 [.ref 1, .int x1, .int x2] [] w) ∧
  (∀ (scr : pX) (w : pW) (x1 : Int32) (x2 : Int32), p_ev scr 36 33 [.ref 1, .int x1, .int x2] [] w = some (.inl none, w, 0)) :=
  ⟨fun _ _ _ => p_r (by decide +kernel : p_at 36 0 = some (.iconst 1)) rfl,
  fun _ _ _ _ => p_r (by decide +kernel : p_at 36 1 = some (.istore_n 2)) rfl,
  fun _ _ _ _ _ => p_r (by decide +kernel : p_at 36 3 = some (.aload_n 0)) rfl,
  fun _ _ _ _ _ => p_rgf (f := some 18) (by decide +kernel : p_at 36 4 = some (.getfield 9)) (by decide +kernel : p_fld (p_own 36) 9 = some (3, 0)) (rfl : p_ob 1 = some (.inr (3, [some 18, none]))) rfl,
  fun _ _ _ _ _ => p_ralen (by decide +kernel : p_at 36 7 = some (.arraylength)) (rfl : p_ob 18 = some (.inl (3, 8))),
  fun _ _ _ _ _ _ => p_rb2 (c := fun x y => decide (y ≤ x)) (off := 25) (by decide +kernel : p_at 36 8 = some (.if_icmp .ge 25)) (by decide +kernel) rfl rfl rfl,
  fun _ _ _ _ => p_r (by decide +kernel : p_at 36 11 = some (.aload_n 0)) rfl,
  fun _ _ _ _ => p_r (by decide +kernel : p_at 36 12 = some (.iload_n 2)) rfl,
  fun _ _ _ _ _ => p_r (by decide +kernel : p_at 36 13 = some (.iload_n 1)) rfl,
  fun _ _ _ _ _ _ => p_rcv (nl := 4) (by decide +kernel : p_at 36 14 = some (.invokevirtual 34)) (by decide +kernel : p_inv (p_own 36) 34 = some (1, 37, 3)) (by decide +kernel) (rfl : p_ob 1 = some (.inr (3, [some 18, none]))) rfl rfl (Nat.le_of_ble_eq_true rfl) (Nat.le_of_ble_eq_true rfl) (Nat.le_of_ble_eq_true rfl) rfl,
  fun _ _ _ _ _ => p_rb1 (c := fun x => decide (x = 0)) (off := 10) (by decide +kernel : p_at 36 17 = some (.ifCond .eq 10)) (by decide +kernel) rfl rfl rfl,
  fun _ _ _ _ => p_r (by decide +kernel : p_at 36 20 = some (.aload_n 0)) rfl,
  fun _ _ _ _ => p_rgf (f := some 18) (by decide +kernel : p_at 36 21 = some (.getfield 9)) (by decide +kernel : p_fld (p_own 36) 9 = some (3, 0)) (rfl : p_ob 1 = some (.inr (3, [some 18, none]))) rfl,
  fun _ _ _ _ => p_r (by decide +kernel : p_at 36 24 = some (.iload_n 2)) rfl,
  fun _ _ _ _ _ => p_r (by decide +kernel : p_at 36 25 = some (.iconst 0)) rfl,
  fun _ _ _ _ _ _ hp => p_rbast (by decide +kernel : p_at 36 26 = some (.bastore)) (rfl : p_ob 18 = some (.inl (3, 8))) (by decide) hp,
  fun _ _ _ _ => p_r (by decide +kernel : p_at 36 27 = some (.iinc 2 1)) rfl,
  fun _ _ _ _ => p_rgo (by decide +kernel : p_at 36 30 = some (.goto (-28))) (by decide +kernel),
  fun _ _ _ _ => p_rvret (by decide +kernel : p_at 36 33 = some (.return_)) (by decide +kernel)⟩
theorem H36_2 :
  (∀ (scr : pX) (w : pW) (x1 : Int32) (x2 : Int32), p_ev scr 36 2 [.ref 1, .int x1, .int x2] [] w = p_ev scr 36 3 [.ref 1, .int x1, .int x2] [.int x2] w) :=
  fun _ _ _ _ => p_r (by decide +kernel : p_at 36 2 = some (.iload_n 2)) rfl
-- 37: isWithin
theorem M37 :
  (∀ (scr : pX) (w : pW) (x1 : Int32) (x2 : Int32), p_ev scr 37 0 [.ref 1, .int x1, .int x2, p_U] [] w = p_ev scr 37 1 [.ref 1, .int x1, .int x2, p_U] [.ref 1] w) ∧
  (∀ (scr : pX) (w : pW) (x1 : Int32) (x2 : Int32), p_ev scr 37 1 [.ref 1, .int x1, .int x2, p_U] [.ref 1] w = p_ev scr 37 2 [.ref 1, .int x1, .int x2, p_U] [.int x1, .ref 1] w) ∧
  (∀ (scr : pX) (w : pW) (x1 : Int32) (x2 : Int32) (s0 : Int32), p_ev scr 37 2 [.ref 1, .int x1, .int x2, p_U] [.int s0, .ref 1] w = p_bnd scr 37 2 5 [.ref 1, .int x1, .int x2, p_U] [] (p_ev none 38 0 [.ref 1, .int s0] [] w)) ∧
  (∀ (scr : pX) (w : pW) (x1 : Int32) (x2 : Int32) (s0 : Int32), p_ev scr 37 5 [.ref 1, .int x1, .int x2, p_U] [.int s0] w = p_ev scr 37 6 [.ref 1, .int x1, .int x2, p_U] [.ref 1, .int s0] w) ∧
  (∀ (scr : pX) (w : pW) (x1 : Int32) (x2 : Int32) (s1 : Int32), p_ev scr 37 6 [.ref 1, .int x1, .int x2, p_U] [.ref 1, .int s1] w = p_ev scr 37 7 [.ref 1, .int x1, .int x2, p_U] [.int x2, .ref 1, .int s1] w) ∧
  (∀ (scr : pX) (w : pW) (x1 : Int32) (x2 : Int32) (s0 : Int32) (s2 : Int32), p_ev scr 37 7 [.ref 1, .int x1, .int x2, p_U] [.int s0, .ref 1, .int s2] w = p_bnd scr 37 7 10 [.ref 1, .int x1, .int x2, p_U] [.int s2] (p_ev none 38 0 [.ref 1, .int s0] [] w)) ∧
  (∀ (scr : pX) (w : pW) (x1 : Int32) (x2 : Int32) (s0 : Int32) (s1 : Int32), p_ev scr 37 10 [.ref 1, .int x1, .int x2, p_U] [.int s0, .int s1] w = p_ev scr 37 11 [.ref 1, .int x1, .int x2, p_U] [.int (s1 - s0)] w) ∧
  (∀ (scr : pX) (w : pW) (x1 : Int32) (x2 : Int32) (s0 : Int32), p_ev scr 37 11 [.ref 1, .int x1, .int x2, p_U] [.int s0] w = p_ev scr 37 12 [.ref 1, .int x1, .int x2, .int s0] [] w) ∧
  (∀ (scr : pX) (w : pW) (x1 : Int32) (x2 : Int32) (x3 : Int32), p_ev scr 37 12 [.ref 1, .int x1, .int x2, .int x3] [] w = p_ev scr 37 13 [.ref 1, .int x1, .int x2, .int x3] [.int x3] w) ∧
  (∀ (scr : pX) (w : pW) (x1 : Int32) (x2 : Int32) (x3 : Int32) (s0 : Int32), p_ev scr 37 13 [.ref 1, .int x1, .int x2, .int x3] [.int s0] w = if s0 < nI 0 then p_ev scr 37 27 [.ref 1, .int x1, .int x2, .int x3] [] w else p_ev scr 37 16 [.ref 1, .int x1, .int x2, .int x3] [] w) ∧
  (∀ (scr : pX) (w : pW) (x1 : Int32) (x2 : Int32) (x3 : Int32), p_ev scr 37 16 [.ref 1, .int x1, .int x2, .int x3] [] w = p_ev scr 37 17 [.ref 1, .int x1, .int x2, .int x3] [.int x1] w) ∧
  (∀ (scr : pX) (w : pW) (x1 : Int32) (x2 : Int32) (x3 : Int32) (s0 : Int32), p_ev scr 37 17 [.ref 1, .int x1, .int x2, .int x3] [.int s0] w = p_ev scr 37 18 [.ref 1, .int x1, .int x2, .int x3] [.int x3, .int s0] w) ∧
  (∀ (scr : pX) (w : pW) (x1 : Int32) (x2 : Int32) (x3 : Int32) (s0 : Int32) (s1 : Int32), p_ev scr 37 18 [.ref 1, .int x1, .int x2, .int x3] [.int s0, .int s1] w = p_ev scr 37 19 [.ref 1, .int x1, .int x2, .int x3] [.int (s1 >>> (s0 &&& 31))] w) ∧
  (∀ (scr : pX) (w : pW) (x1 : Int32) (x2 : Int32) (x3 : Int32) (s0 : Int32), p_ev scr 37 19 [.ref 1, .int x1, .int x2, .int x3] [.int s0] w = p_ev scr 37 20 [.ref 1, .int x1, .int x2, .int x3] [.int x2, .int s0] w) ∧
  (∀ (scr : pX) (w : pW) (x1 : Int32) (x2 : Int32) (x3 : Int32) (s0 : Int32) (s1 : Int32), p_ev scr 37 20 [.ref 1, .int x1, .int x2, .int x3] [.int s0, .int s1] w = if ¬ s1 = s0 then p_ev scr 37 27 [.ref 1, .int x1, .int x2, .int x3] [] w else p_ev scr 37 23 [.ref 1, .int x1, .int x2, .int x3] [] w) ∧
  (∀ (scr : pX) (w : pW) (x1 : Int32) (x2 : Int32) (x3 : Int32), p_ev scr 37 23 [.ref 1, .int x1, .int x2, .int x3] [] w = p_ev scr 37 24 [.ref 1, .int x1, .int x2, .int x3] [.int (nI 1)] w) ∧
  (∀ (scr : pX) (w : pW) (x1 : Int32) (x2 : Int32) (x3 : Int32) (s0 : Int32), p_ev scr 37 24 [.ref 1, .int x1, .int x2, .int x3] [.int s0] w = p_ev scr 37 28 [.ref 1, .int x1, .int x2, .int x3] [.int s0] w) ∧
  (∀ (scr : pX) (w : pW) (x1 : Int32) (x2 : Int32) (x3 : Int32), p_ev scr 37 27 [.ref 1, .int x1, .int x2, .int x3] [] w = p_ev scr 37 28 [.ref 1, .int x1, .int x2, .int x3] [.int (nI 0)] w) ∧
  (∀ (scr : pX) (w : pW) (x1 : Int32) (x2 : Int32) (x3 : Int32) (s0 : Int32), narrow .boolean (.int s0) = .int s0 → p_ev scr 37 28 [.ref 1, .int x1, .int x2, .int x3] [.int s0] w = some (.inl (some (.int s0)), w, 0)) :=
  ⟨fun _ _ _ _ => p_r (by decide +kernel : p_at 37 0 = some (.aload_n 0)) rfl,
  fun _ _ _ _ => p_r (by decide +kernel : p_at 37 1 = some (.iload_n 1)) rfl,
  fun _ _ _ _ _ => p_rcv (nl := 2) (by decide +kernel : p_at 37 2 = some (.invokevirtual 38)) (by decide +kernel : p_inv (p_own 37) 38 = some (1, 38, 2)) (by decide +kernel) (rfl : p_ob 1 = some (.inr (3, [some 18, none]))) rfl rfl (Nat.le_of_ble_eq_true rfl) (Nat.le_of_ble_eq_true rfl) (Nat.le_of_ble_eq_true rfl) rfl,
  fun _ _ _ _ _ => p_r (by decide +kernel : p_at 37 5 = some (.aload_n 0)) rfl,
  fun _ _ _ _ _ => p_r (by decide +kernel : p_at 37 6 = some (.iload_n 2)) rfl,
  fun _ _ _ _ _ _ => p_rcv (nl := 2) (by decide +kernel : p_at 37 7 = some (.invokevirtual 38)) (by decide +kernel : p_inv (p_own 37) 38 = some (1, 38, 2)) (by decide +kernel) (rfl : p_ob 1 = some (.inr (3, [some 18, none]))) rfl rfl (Nat.le_of_ble_eq_true rfl) (Nat.le_of_ble_eq_true rfl) (Nat.le_of_ble_eq_true rfl) rfl,
  fun _ _ _ _ _ _ => p_r (by decide +kernel : p_at 37 10 = some (.isub)) rfl,
  fun _ _ _ _ _ => p_r (by decide +kernel : p_at 37 11 = some (.istore_n 3)) rfl,
  fun _ _ _ _ _ => p_r (by decide +kernel : p_at 37 12 = some (.iload_n 3)) rfl,
  fun _ _ _ _ _ _ => p_rb1 (c := fun x => decide (x < 0)) (off := 14) (by decide +kernel : p_at 37 13 = some (.ifCond .lt 14)) (by decide +kernel) rfl rfl rfl,
  fun _ _ _ _ _ => p_r (by decide +kernel : p_at 37 16 = some (.iload_n 1)) rfl,
  fun _ _ _ _ _ _ => p_r (by decide +kernel : p_at 37 17 = some (.iload_n 3)) rfl,
  fun _ _ _ _ _ _ _ => p_r (by decide +kernel : p_at 37 18 = some (.ishr)) rfl,
  fun _ _ _ _ _ _ => p_r (by decide +kernel : p_at 37 19 = some (.iload_n 2)) rfl,
  fun _ _ _ _ _ _ _ => p_rb2 (c := fun x y => decide (¬ x = y)) (off := 7) (by decide +kernel : p_at 37 20 = some (.if_icmp .ne 7)) (by decide +kernel) rfl rfl rfl,
  fun _ _ _ _ _ => p_r (by decide +kernel : p_at 37 23 = some (.iconst 1)) rfl,
  fun _ _ _ _ _ _ => p_rgo (by decide +kernel : p_at 37 24 = some (.goto 4)) (by decide +kernel),
  fun _ _ _ _ _ => p_r (by decide +kernel : p_at 37 27 = some (.iconst 0)) rfl,
  fun _ _ _ _ _ _ hp => p_rzret (by decide +kernel : p_at 37 28 = some (.ireturn)) (by decide +kernel) hp⟩
-- 38: levelOf
theorem M38 :
  (∀ (scr : pX) (w : pW) (x1 : Int32), p_ev scr 38 0 [.ref 1, .int x1] [] w = p_ev scr 38 1 [.ref 1, .int x1] [.int x1] w) ∧
  (∀ (scr : pX) (w : pW) (x1 : Int32) (s0 : Int32), p_ev scr 38 1 [.ref 1, .int x1] [.int s0] w = p_ev scr 38 2 [.ref 1, .int x1] [.int (nI 2), .int s0] w) ∧
  (∀ (scr : pX) (w : pW) (x1 : Int32) (s0 : Int32) (s1 : Int32), p_ev scr 38 2 [.ref 1, .int x1] [.int s0, .int s1] w = if s0 ≤ s1 then p_ev scr 38 7 [.ref 1, .int x1] [] w else p_ev scr 38 5 [.ref 1, .int x1] [] w) ∧
  (∀ (scr : pX) (w : pW) (x1 : Int32), p_ev scr 38 5 [.ref 1, .int x1] [] w = p_ev scr 38 6 [.ref 1, .int x1] [.int (nI 0)] w) ∧
  (∀ (scr : pX) (w : pW) (x1 : Int32) (s0 : Int32), p_ev scr 38 6 [.ref 1, .int x1] [.int s0] w = some (.inl (some (.int s0)), w, 0)) ∧
  (∀ (scr : pX) (w : pW) (x1 : Int32), p_ev scr 38 7 [.ref 1, .int x1] [] w = p_ev scr 38 8 [.ref 1, .int x1] [.int x1] w) ∧
  (∀ (scr : pX) (w : pW) (x1 : Int32) (s0 : Int32), p_ev scr 38 8 [.ref 1, .int x1] [.int s0] w = p_ev scr 38 9 [.ref 1, .int x1] [.int (nI 4), .int s0] w) ∧
  (∀ (scr : pX) (w : pW) (x1 : Int32) (s0 : Int32) (s1 : Int32), p_ev scr 38 9 [.ref 1, .int x1] [.int s0, .int s1] w = if s0 ≤ s1 then p_ev scr 38 14 [.ref 1, .int x1] [] w else p_ev scr 38 12 [.ref 1, .int x1] [] w) ∧
  (∀ (scr : pX) (w : pW) (x1 : Int32), p_ev scr 38 12 [.ref 1, .int x1] [] w = p_ev scr 38 13 [.ref 1, .int x1] [.int (nI 1)] w) ∧
  (∀ (scr : pX) (w : pW) (x1 : Int32) (s0 : Int32), p_ev scr 38 13 [.ref 1, .int x1] [.int s0] w = some (.inl (some (.int s0)), w, 0)) ∧
  (∀ (scr : pX) (w : pW) (x1 : Int32), p_ev scr 38 14 [.ref 1, .int x1] [] w = p_ev scr 38 15 [.ref 1, .int x1] [.int x1] w) ∧
  (∀ (scr : pX) (w : pW) (x1 : Int32) (s0 : Int32), p_ev scr 38 15 [.ref 1, .int x1] [.int s0] w = p_ev scr 38 17 [.ref 1, .int x1] [.int (nI 8), .int s0] w) ∧
  (∀ (scr : pX) (w : pW) (x1 : Int32) (s0 : Int32) (s1 : Int32), p_ev scr 38 17 [.ref 1, .int x1] [.int s0, .int s1] w = if s0 ≤ s1 then p_ev scr 38 24 [.ref 1, .int x1] [] w else p_ev scr 38 20 [.ref 1, .int x1] [] w) ∧
  (∀ (scr : pX) (w : pW) (x1 : Int32), p_ev scr 38 20 [.ref 1, .int x1] [] w = p_ev scr 38 21 [.ref 1, .int x1] [.int (nI 2)] w) ∧
  (∀ (scr : pX) (w : pW) (x1 : Int32) (s0 : Int32), p_ev scr 38 21 [.ref 1, .int x1] [.int s0] w = p_ev scr 38 25 [.ref 1, .int x1] [.int s0] w) ∧
  (∀ (scr : pX) (w : pW) (x1 : Int32), p_ev scr 38 24 [.ref 1, .int x1] [] w = p_ev scr 38 25 [.ref 1, .int x1] [.int (nI 3)] w) ∧
  (∀ (scr : pX) (w : pW) (x1 : Int32) (s0 : Int32), p_ev scr 38 25 [.ref 1, .int x1] [.int s0] w = some (.inl (some (.int s0)), w, 0)) :=
  ⟨fun _ _ _ => p_r (by decide +kernel : p_at 38 0 = some (.iload_n 1)) rfl,
  fun _ _ _ _ => p_r (by decide +kernel : p_at 38 1 = some (.iconst 2)) rfl,
  fun _ _ _ _ _ => p_rb2 (c := fun x y => decide (y ≤ x)) (off := 5) (by decide +kernel : p_at 38 2 = some (.if_icmp .ge 5)) (by decide +kernel) rfl rfl rfl,
  fun _ _ _ => p_r (by decide +kernel : p_at 38 5 = some (.iconst 0)) rfl,
  fun _ _ _ _ => p_riret (by decide +kernel : p_at 38 6 = some (.ireturn)) (by decide +kernel),
  fun _ _ _ => p_r (by decide +kernel : p_at 38 7 = some (.iload_n 1)) rfl,
  fun _ _ _ _ => p_r (by decide +kernel : p_at 38 8 = some (.iconst 4)) rfl,
  fun _ _ _ _ _ => p_rb2 (c := fun x y => decide (y ≤ x)) (off := 5) (by decide +kernel : p_at 38 9 = some (.if_icmp .ge 5)) (by decide +kernel) rfl rfl rfl,
  fun _ _ _ => p_r (by decide +kernel : p_at 38 12 = some (.iconst 1)) rfl,
  fun _ _ _ _ => p_riret (by decide +kernel : p_at 38 13 = some (.ireturn)) (by decide +kernel),
  fun _ _ _ => p_r (by decide +kernel : p_at 38 14 = some (.iload_n 1)) rfl,
  fun _ _ _ _ => p_r (by decide +kernel : p_at 38 15 = some (.bipush 8)) rfl,
  fun _ _ _ _ _ => p_rb2 (c := fun x y => decide (y ≤ x)) (off := 7) (by decide +kernel : p_at 38 17 = some (.if_icmp .ge 7)) (by decide +kernel) rfl rfl rfl,
  fun _ _ _ => p_r (by decide +kernel : p_at 38 20 = some (.iconst 2)) rfl,
  fun _ _ _ _ => p_rgo (by decide +kernel : p_at 38 21 = some (.goto 4)) (by decide +kernel),
  fun _ _ _ => p_r (by decide +kernel : p_at 38 24 = some (.iconst 3)) rfl,
  fun _ _ _ _ => p_riret (by decide +kernel : p_at 38 25 = some (.ireturn)) (by decide +kernel)⟩
-- 39: widthOf
theorem M39 :
  (∀ (scr : pX) (w : pW) (x1 : Int32), p_ev scr 39 0 [.ref 1, .int x1] [] w = p_ev scr 39 1 [.ref 1, .int x1] [.ref 1] w) ∧
  (∀ (scr : pX) (w : pW) (x1 : Int32), p_ev scr 39 1 [.ref 1, .int x1] [.ref 1] w = p_ev scr 39 4 [.ref 1, .int x1] [.int (w.1 1 1)] w) ∧
  (∀ (scr : pX) (w : pW) (x1 : Int32) (s0 : Int32), p_ev scr 39 4 [.ref 1, .int x1] [.int s0] w = p_ev scr 39 5 [.ref 1, .int x1] [.ref 1, .int s0] w) ∧
  (∀ (scr : pX) (w : pW) (x1 : Int32) (s1 : Int32), p_ev scr 39 5 [.ref 1, .int x1] [.ref 1, .int s1] w = p_ev scr 39 6 [.ref 1, .int x1] [.int x1, .ref 1, .int s1] w) ∧
  (∀ (scr : pX) (w : pW) (x1 : Int32) (s0 : Int32) (s2 : Int32), p_ev scr 39 6 [.ref 1, .int x1] [.int s0, .ref 1, .int s2] w = p_bnd scr 39 6 9 [.ref 1, .int x1] [.int s2] (p_ev none 38 0 [.ref 1, .int s0] [] w)) ∧
  (∀ (scr : pX) (w : pW) (x1 : Int32) (s0 : Int32) (s1 : Int32), p_ev scr 39 9 [.ref 1, .int x1] [.int s0, .int s1] w = p_ev scr 39 10 [.ref 1, .int x1] [.int (s1 >>> (s0 &&& 31))] w) ∧
  (∀ (scr : pX) (w : pW) (x1 : Int32) (s0 : Int32), p_ev scr 39 10 [.ref 1, .int x1] [.int s0] w = some (.inl (some (.int s0)), w, 0)) :=
  ⟨fun _ _ _ => p_r (by decide +kernel : p_at 39 0 = some (.aload_n 0)) rfl,
  fun _ _ _ => p_rgf (f := none) (by decide +kernel : p_at 39 1 = some (.getfield 15)) (by decide +kernel : p_fld (p_own 39) 15 = some (3, 1)) (rfl : p_ob 1 = some (.inr (3, [some 18, none]))) rfl,
  fun _ _ _ _ => p_r (by decide +kernel : p_at 39 4 = some (.aload_n 0)) rfl,
  fun _ _ _ _ => p_r (by decide +kernel : p_at 39 5 = some (.iload_n 1)) rfl,
  fun _ _ _ _ _ => p_rcv (nl := 2) (by decide +kernel : p_at 39 6 = some (.invokevirtual 38)) (by decide +kernel : p_inv (p_own 39) 38 = some (1, 38, 2)) (by decide +kernel) (rfl : p_ob 1 = some (.inr (3, [some 18, none]))) rfl rfl (Nat.le_of_ble_eq_true rfl) (Nat.le_of_ble_eq_true rfl) (Nat.le_of_ble_eq_true rfl) rfl,
  fun _ _ _ _ _ => p_r (by decide +kernel : p_at 39 9 = some (.ishr)) rfl,
  fun _ _ _ _ => p_riret (by decide +kernel : p_at 39 10 = some (.ireturn)) (by decide +kernel)⟩
-- 40: startOf
theorem M40 :
  (∀ (scr : pX) (w : pW) (x1 : Int32), p_ev scr 40 0 [.ref 1, .int x1] [] w = p_ev scr 40 1 [.ref 1, .int x1] [.int x1] w) ∧
  (∀ (scr : pX) (w : pW) (x1 : Int32) (s0 : Int32), p_ev scr 40 1 [.ref 1, .int x1] [.int s0] w = p_ev scr 40 2 [.ref 1, .int x1] [.int (nI 1), .int s0] w) ∧
  (∀ (scr : pX) (w : pW) (x1 : Int32) (s0 : Int32) (s1 : Int32), p_ev scr 40 2 [.ref 1, .int x1] [.int s0, .int s1] w = p_ev scr 40 3 [.ref 1, .int x1] [.ref 1, .int s0, .int s1] w) ∧
  (∀ (scr : pX) (w : pW) (x1 : Int32) (s1 : Int32) (s2 : Int32), p_ev scr 40 3 [.ref 1, .int x1] [.ref 1, .int s1, .int s2] w = p_ev scr 40 4 [.ref 1, .int x1] [.int x1, .ref 1, .int s1, .int s2] w) ∧
  (∀ (scr : pX) (w : pW) (x1 : Int32) (s0 : Int32) (s2 : Int32) (s3 : Int32), p_ev scr 40 4 [.ref 1, .int x1] [.int s0, .ref 1, .int s2, .int s3] w = p_bnd scr 40 4 7 [.ref 1, .int x1] [.int s2, .int s3] (p_ev none 38 0 [.ref 1, .int s0] [] w)) ∧
  (∀ (scr : pX) (w : pW) (x1 : Int32) (s0 : Int32) (s1 : Int32) (s2 : Int32), p_ev scr 40 7 [.ref 1, .int x1] [.int s0, .int s1, .int s2] w = p_ev scr 40 8 [.ref 1, .int x1] [.int (s1 <<< (s0 &&& 31)), .int s2] w) ∧
  (∀ (scr : pX) (w : pW) (x1 : Int32) (s0 : Int32) (s1 : Int32), p_ev scr 40 8 [.ref 1, .int x1] [.int s0, .int s1] w = p_ev scr 40 9 [.ref 1, .int x1] [.int (s1 - s0)] w) ∧
  (∀ (scr : pX) (w : pW) (x1 : Int32) (s0 : Int32), p_ev scr 40 9 [.ref 1, .int x1] [.int s0] w = p_ev scr 40 10 [.ref 1, .int x1] [.ref 1, .int s0] w) ∧
  (∀ (scr : pX) (w : pW) (x1 : Int32) (s1 : Int32), p_ev scr 40 10 [.ref 1, .int x1] [.ref 1, .int s1] w = p_ev scr 40 11 [.ref 1, .int x1] [.int x1, .ref 1, .int s1] w) ∧
  (∀ (scr : pX) (w : pW) (x1 : Int32) (s0 : Int32) (s2 : Int32), p_ev scr 40 11 [.ref 1, .int x1] [.int s0, .ref 1, .int s2] w = p_bnd scr 40 11 14 [.ref 1, .int x1] [.int s2] (p_ev none 39 0 [.ref 1, .int s0] [] w)) ∧
  (∀ (scr : pX) (w : pW) (x1 : Int32) (s0 : Int32) (s1 : Int32), p_ev scr 40 14 [.ref 1, .int x1] [.int s0, .int s1] w = p_ev scr 40 15 [.ref 1, .int x1] [.int (s1 * s0)] w) ∧
  (∀ (scr : pX) (w : pW) (x1 : Int32) (s0 : Int32), p_ev scr 40 15 [.ref 1, .int x1] [.int s0] w = some (.inl (some (.int s0)), w, 0)) :=
  ⟨fun _ _ _ => p_r (by decide +kernel : p_at 40 0 = some (.iload_n 1)) rfl,
  fun _ _ _ _ => p_r (by decide +kernel : p_at 40 1 = some (.iconst 1)) rfl,
  fun _ _ _ _ _ => p_r (by decide +kernel : p_at 40 2 = some (.aload_n 0)) rfl,
  fun _ _ _ _ _ => p_r (by decide +kernel : p_at 40 3 = some (.iload_n 1)) rfl,
  fun _ _ _ _ _ _ => p_rcv (nl := 2) (by decide +kernel : p_at 40 4 = some (.invokevirtual 38)) (by decide +kernel : p_inv (p_own 40) 38 = some (1, 38, 2)) (by decide +kernel) (rfl : p_ob 1 = some (.inr (3, [some 18, none]))) rfl rfl (Nat.le_of_ble_eq_true rfl) (Nat.le_of_ble_eq_true rfl) (Nat.le_of_ble_eq_true rfl) rfl,
  fun _ _ _ _ _ _ => p_r (by decide +kernel : p_at 40 7 = some (.ishl)) rfl,
  fun _ _ _ _ _ => p_r (by decide +kernel : p_at 40 8 = some (.isub)) rfl,
  fun _ _ _ _ => p_r (by decide +kernel : p_at 40 9 = some (.aload_n 0)) rfl,
  fun _ _ _ _ => p_r (by decide +kernel : p_at 40 10 = some (.iload_n 1)) rfl,
  fun _ _ _ _ _ => p_rcv (nl := 2) (by decide +kernel : p_at 40 11 = some (.invokevirtual 30)) (by decide +kernel : p_inv (p_own 40) 30 = some (1, 39, 2)) (by decide +kernel) (rfl : p_ob 1 = some (.inr (3, [some 18, none]))) rfl rfl (Nat.le_of_ble_eq_true rfl) (Nat.le_of_ble_eq_true rfl) (Nat.le_of_ble_eq_true rfl) rfl,
  fun _ _ _ _ _ => p_r (by decide +kernel : p_at 40 14 = some (.imul)) rfl,
  fun _ _ _ _ => p_riret (by decide +kernel : p_at 40 15 = some (.ireturn)) (by decide +kernel)⟩
-- 41: leafOver
theorem M41 :
  (∀ (scr : pX) (w : pW) (x1 : Int32), p_ev scr 41 0 [.ref 1, .int x1, p_U, p_U, p_U] [] w = p_ev scr 41 1 [.ref 1, .int x1, p_U, p_U, p_U] [.int (nI 1)] w) ∧
  (∀ (scr : pX) (w : pW) (x1 : Int32) (s0 : Int32), p_ev scr 41 1 [.ref 1, .int x1, p_U, p_U, p_U] [.int s0] w = p_ev scr 41 2 [.ref 1, .int x1, .int s0, p_U, p_U] [] w) ∧
  (∀ (scr : pX) (w : pW) (x1 : Int32) (x2 : Int32), p_ev scr 41 2 [.ref 1, .int x1, .int x2, p_U, p_U] [] w = p_ev scr 41 3 [.ref 1, .int x1, .int x2, p_U, p_U] [.int (nI 0)] w) ∧
  (∀ (scr : pX) (w : pW) (x1 : Int32) (x2 : Int32) (s0 : Int32), p_ev scr 41 3 [.ref 1, .int x1, .int x2, p_U, p_U] [.int s0] w = p_ev scr 41 4 [.ref 1, .int x1, .int x2, .int s0, p_U] [] w) ∧
  (∀ (scr : pX) (w : pW) (x1 : Int32) (x2 : Int32) (x3 : Int32) (z4 : Value) (s0 : Int32), p_ev scr 41 5 [.ref 1, .int x1, .int x2, .int x3, z4] [.int s0] w = p_ev scr 41 6 [.ref 1, .int x1, .int x2, .int x3, z4] [.int (nI 3), .int s0] w) ∧
  (∀ (scr : pX) (w : pW) (x1 : Int32) (x2 : Int32) (x3 : Int32) (z4 : Value) (s0 : Int32) (s1 : Int32), p_ev scr 41 6 [.ref 1, .int x1, .int x2, .int x3, z4] [.int s0, .int s1] w = if s0 ≤ s1 then p_ev scr 41 49 [.ref 1, .int x1, .int x2, .int x3, z4] [] w else p_ev scr 41 9 [.ref 1, .int x1, .int x2, .int x3, z4] [] w) ∧
  (∀ (scr : pX) (w : pW) (x1 : Int32) (x2 : Int32) (x3 : Int32) (z4 : Value), p_ev scr 41 9 [.ref 1, .int x1, .int x2, .int x3, z4] [] w = p_ev scr 41 10 [.ref 1, .int x1, .int x2, .int x3, z4] [.ref 1] w) ∧
  (∀ (scr : pX) (w : pW) (x1 : Int32) (x2 : Int32) (x3 : Int32) (z4 : Value), p_ev scr 41 10 [.ref 1, .int x1, .int x2, .int x3, z4] [.ref 1] w = p_ev scr 41 11 [.ref 1, .int x1, .int x2, .int x3, z4] [.int x2, .ref 1] w) ∧
  (∀ (scr : pX) (w : pW) (x1 : Int32) (x2 : Int32) (x3 : Int32) (z4 : Value) (s0 : Int32), p_ev scr 41 11 [.ref 1, .int x1, .int x2, .int x3, z4] [.int s0, .ref 1] w = p_bnd scr 41 11 14 [.ref 1, .int x1, .int x2, .int x3, z4] [] (p_ev none 33 0 [.ref 1, .int s0] [] w)) ∧
  (∀ (scr : pX) (w : pW) (x1 : Int32) (x2 : Int32) (x3 : Int32) (z4 : Value) (s0 : Int32), p_ev scr 41 14 [.ref 1, .int x1, .int x2, .int x3, z4] [.int s0] w = if s0 = nI 0 then p_ev scr 41 49 [.ref 1, .int x1, .int x2, .int x3, z4] [] w else p_ev scr 41 17 [.ref 1, .int x1, .int x2, .int x3, z4] [] w) ∧
  (∀ (scr : pX) (w : pW) (x1 : Int32) (x2 : Int32) (x3 : Int32) (z4 : Value), p_ev scr 41 17 [.ref 1, .int x1, .int x2, .int x3, z4] [] w = p_ev scr 41 18 [.ref 1, .int x1, .int x2, .int x3, z4] [.int (nI 2)] w) ∧
  (∀ (scr : pX) (w : pW) (x1 : Int32) (x2 : Int32) (x3 : Int32) (z4 : Value) (s0 : Int32), p_ev scr 41 18 [.ref 1, .int x1, .int x2, .int x3, z4] [.int s0] w = p_ev scr 41 19 [.ref 1, .int x1, .int x2, .int x3, z4] [.int x2, .int s0] w) ∧
  (∀ (scr : pX) (w : pW) (x1 : Int32) (x2 : Int32) (x3 : Int32) (z4 : Value) (s0 : Int32) (s1 : Int32), p_ev scr 41 19 [.ref 1, .int x1, .int x2, .int x3, z4] [.int s0, .int s1] w = p_ev scr 41 20 [.ref 1, .int x1, .int x2, .int x3, z4] [.int (s1 * s0)] w) ∧
  (∀ (scr : pX) (w : pW) (x1 : Int32) (x2 : Int32) (x3 : Int32) (z4 : Value) (s0 : Int32), p_ev scr 41 20 [.ref 1, .int x1, .int x2, .int x3, z4] [.int s0] w = p_ev scr 41 21 [.ref 1, .int x1, .int x2, .int x3, z4] [.int (nI 1), .int s0] w) ∧
  (∀ (scr : pX) (w : pW) (x1 : Int32) (x2 : Int32) (x3 : Int32) (z4 : Value) (s0 : Int32) (s1 : Int32), p_ev scr 41 21 [.ref 1, .int x1, .int x2, .int x3, z4] [.int s0, .int s1] w = p_ev scr 41 22 [.ref 1, .int x1, .int x2, .int x3, z4] [.int (s1 + s0)] w) ∧
  (∀ (scr : pX) (w : pW) (x1 : Int32) (x2 : Int32) (x3 : Int32) (z4 : Value) (s0 : Int32), p_ev scr 41 22 [.ref 1, .int x1, .int x2, .int x3, z4] [.int s0] w = p_ev scr 41 24 [.ref 1, .int x1, .int x2, .int x3, .int s0] [] w) ∧
  (∀ (scr : pX) (w : pW) (x1 : Int32) (x2 : Int32) (x3 : Int32) (x4 : Int32), p_ev scr 41 24 [.ref 1, .int x1, .int x2, .int x3, .int x4] [] w = p_ev scr 41 25 [.ref 1, .int x1, .int x2, .int x3, .int x4] [.int x1] w) ∧
  (∀ (scr : pX) (w : pW) (x1 : Int32) (x2 : Int32) (x3 : Int32) (x4 : Int32) (s0 : Int32), p_ev scr 41 25 [.ref 1, .int x1, .int x2, .int x3, .int x4] [.int s0] w = p_ev scr 41 26 [.ref 1, .int x1, .int x2, .int x3, .int x4] [.ref 1, .int s0] w) ∧
  (∀ (scr : pX) (w : pW) (x1 : Int32) (x2 : Int32) (x3 : Int32) (x4 : Int32) (s1 : Int32), p_ev scr 41 26 [.ref 1, .int x1, .int x2, .int x3, .int x4] [.ref 1, .int s1] w = p_ev scr 41 28 [.ref 1, .int x1, .int x2, .int x3, .int x4] [.int x4, .ref 1, .int s1] w) ∧
  (∀ (scr : pX) (w : pW) (x1 : Int32) (x2 : Int32) (x3 : Int32) (x4 : Int32) (s0 : Int32) (s2 : Int32), p_ev scr 41 28 [.ref 1, .int x1, .int x2, .int x3, .int x4] [.int s0, .ref 1, .int s2] w = p_bnd scr 41 28 31 [.ref 1, .int x1, .int x2, .int x3, .int x4] [.int s2] (p_ev none 40 0 [.ref 1, .int s0] [] w)) ∧
  (∀ (scr : pX) (w : pW) (x1 : Int32) (x2 : Int32) (x3 : Int32) (x4 : Int32) (s0 : Int32) (s1 : Int32), p_ev scr 41 31 [.ref 1, .int x1, .int x2, .int x3, .int x4] [.int s0, .int s1] w = if s0 ≤ s1 then p_ev scr 41 40 [.ref 1, .int x1, .int x2, .int x3, .int x4] [] w else p_ev scr 41 34 [.ref 1, .int x1, .int x2, .int x3, .int x4] [] w) ∧
  (∀ (scr : pX) (w : pW) (x1 : Int32) (x2 : Int32) (x3 : Int32) (x4 : Int32), p_ev scr 41 34 [.ref 1, .int x1, .int x2, .int x3, .int x4] [] w = p_ev scr 41 35 [.ref 1, .int x1, .int x2, .int x3, .int x4] [.int (nI 2)] w) ∧
  (∀ (scr : pX) (w : pW) (x1 : Int32) (x2 : Int32) (x3 : Int32) (x4 : Int32) (s0 : Int32), p_ev scr 41 35 [.ref 1, .int x1, .int x2, .int x3, .int x4] [.int s0] w = p_ev scr 41 36 [.ref 1, .int x1, .int x2, .int x3, .int x4] [.int x2, .int s0] w) ∧
  (∀ (scr : pX) (w : pW) (x1 : Int32) (x2 : Int32) (x3 : Int32) (x4 : Int32) (s0 : Int32) (s1 : Int32), p_ev scr 41 36 [.ref 1, .int x1, .int x2, .int x3, .int x4] [.int s0, .int s1] w = p_ev scr 41 37 [.ref 1, .int x1, .int x2, .int x3, .int x4] [.int (s1 * s0)] w) ∧
  (∀ (scr : pX) (w : pW) (x1 : Int32) (x2 : Int32) (x3 : Int32) (x4 : Int32) (s0 : Int32), p_ev scr 41 37 [.ref 1, .int x1, .int x2, .int x3, .int x4] [.int s0] w = p_ev scr 41 42 [.ref 1, .int x1, .int x2, .int x3, .int x4] [.int s0] w) ∧
  (∀ (scr : pX) (w : pW) (x1 : Int32) (x2 : Int32) (x3 : Int32) (x4 : Int32), p_ev scr 41 40 [.ref 1, .int x1, .int x2, .int x3, .int x4] [] w = p_ev scr 41 42 [.ref 1, .int x1, .int x2, .int x3, .int x4] [.int x4] w) ∧
  (∀ (scr : pX) (w : pW) (x1 : Int32) (x2 : Int32) (x3 : Int32) (x4 : Int32) (s0 : Int32), p_ev scr 41 42 [.ref 1, .int x1, .int x2, .int x3, .int x4] [.int s0] w = p_ev scr 41 43 [.ref 1, .int x1, .int s0, .int x3, .int x4] [] w) ∧
  (∀ (scr : pX) (w : pW) (x1 : Int32) (x2 : Int32) (x3 : Int32) (x4 : Int32), p_ev scr 41 43 [.ref 1, .int x1, .int x2, .int x3, .int x4] [] w = p_ev scr 41 46 [.ref 1, .int x1, .int x2, .int (x3 + (nI 1)), .int x4] [] w) ∧
  (∀ (scr : pX) (w : pW) (x1 : Int32) (x2 : Int32) (x3 : Int32) (x4 : Int32), p_ev scr 41 46 [.ref 1, .int x1, .int x2, .int x3, .int x4] [] w = p_ev scr 41 4 [.ref 1, .int x1, .int x2, .int x3, .int x4] [] w) ∧
  (∀ (scr : pX) (w : pW) (x1 : Int32) (x2 : Int32) (x3 : Int32) (z4 : Value), p_ev scr 41 49 [.ref 1, .int x1, .int x2, .int x3, z4] [] w = p_ev scr 41 50 [.ref 1, .int x1, .int x2, .int x3, z4] [.int x2] w) ∧
  (∀ (scr : pX) (w : pW) (x1 : Int32) (x2 : Int32) (x3 : Int32) (z4 : Value) (s0 : Int32), p_ev scr 41 50 [.ref 1, .int x1, .int x2, .int x3, z4] [.int s0] w = some (.inl (some (.int s0)), w, 0)) :=
  ⟨fun _ _ _ => p_r (by decide +kernel : p_at 41 0 = some (.iconst 1)) rfl,
  fun _ _ _ _ => p_r (by decide +kernel : p_at 41 1 = some (.istore_n 2)) rfl,
  fun _ _ _ _ => p_r (by decide +kernel : p_at 41 2 = some (.iconst 0)) rfl,
  fun _ _ _ _ _ => p_r (by decide +kernel : p_at 41 3 = some (.istore_n 3)) rfl,
  fun _ _ _ _ _ _ _ => p_r (by decide +kernel : p_at 41 5 = some (.iconst 3)) rfl,
  fun _ _ _ _ _ _ _ _ => p_rb2 (c := fun x y => decide (y ≤ x)) (off := 43) (by decide +kernel : p_at 41 6 = some (.if_icmp .ge 43)) (by decide +kernel) rfl rfl rfl,
  fun _ _ _ _ _ _ => p_r (by decide +kernel : p_at 41 9 = some (.aload_n 0)) rfl,
  fun _ _ _ _ _ _ => p_r (by decide +kernel : p_at 41 10 = some (.iload_n 2)) rfl,
  fun _ _ _ _ _ _ _ => p_rcv (nl := 2) (by decide +kernel : p_at 41 11 = some (.invokevirtual 23)) (by decide +kernel : p_inv (p_own 41) 23 = some (1, 33, 2)) (by decide +kernel) (rfl : p_ob 1 = some (.inr (3, [some 18, none]))) rfl rfl (Nat.le_of_ble_eq_true rfl) (Nat.le_of_ble_eq_true rfl) (Nat.le_of_ble_eq_true rfl) rfl,
  fun _ _ _ _ _ _ _ => p_rb1 (c := fun x => decide (x = 0)) (off := 35) (by decide +kernel : p_at 41 14 = some (.ifCond .eq 35)) (by decide +kernel) rfl rfl rfl,
  fun _ _ _ _ _ _ => p_r (by decide +kernel : p_at 41 17 = some (.iconst 2)) rfl,
  fun _ _ _ _ _ _ _ => p_r (by decide +kernel : p_at 41 18 = some (.iload_n 2)) rfl,
  fun _ _ _ _ _ _ _ _ => p_r (by decide +kernel : p_at 41 19 = some (.imul)) rfl,
  fun _ _ _ _ _ _ _ => p_r (by decide +kernel : p_at 41 20 = some (.iconst 1)) rfl,
  fun _ _ _ _ _ _ _ _ => p_r (by decide +kernel : p_at 41 21 = some (.iadd)) rfl,
  fun _ _ _ _ _ _ _ => p_r (by decide +kernel : p_at 41 22 = some (.istore 4)) rfl,
  fun _ _ _ _ _ _ => p_r (by decide +kernel : p_at 41 24 = some (.iload_n 1)) rfl,
  fun _ _ _ _ _ _ _ => p_r (by decide +kernel : p_at 41 25 = some (.aload_n 0)) rfl,
  fun _ _ _ _ _ _ _ => p_r (by decide +kernel : p_at 41 26 = some (.iload 4)) rfl,
  fun _ _ _ _ _ _ _ _ => p_rcv (nl := 2) (by decide +kernel : p_at 41 28 = some (.invokevirtual 41)) (by decide +kernel : p_inv (p_own 41) 41 = some (1, 40, 2)) (by decide +kernel) (rfl : p_ob 1 = some (.inr (3, [some 18, none]))) rfl rfl (Nat.le_of_ble_eq_true rfl) (Nat.le_of_ble_eq_true rfl) (Nat.le_of_ble_eq_true rfl) rfl,
  fun _ _ _ _ _ _ _ _ => p_rb2 (c := fun x y => decide (y ≤ x)) (off := 9) (by decide +kernel : p_at 41 31 = some (.if_icmp .ge 9)) (by decide +kernel) rfl rfl rfl,
  fun _ _ _ _ _ _ => p_r (by decide +kernel : p_at 41 34 = some (.iconst 2)) rfl,
  fun _ _ _ _ _ _ _ => p_r (by decide +kernel : p_at 41 35 = some (.iload_n 2)) rfl,
  fun _ _ _ _ _ _ _ _ => p_r (by decide +kernel : p_at 41 36 = some (.imul)) rfl,
  fun _ _ _ _ _ _ _ => p_rgo (by decide +kernel : p_at 41 37 = some (.goto 5)) (by decide +kernel),
  fun _ _ _ _ _ _ => p_r (by decide +kernel : p_at 41 40 = some (.iload 4)) rfl,
  fun _ _ _ _ _ _ _ => p_r (by decide +kernel : p_at 41 42 = some (.istore_n 2)) rfl,
  fun _ _ _ _ _ _ => p_r (by decide +kernel : p_at 41 43 = some (.iinc 3 1)) rfl,
  fun _ _ _ _ _ _ => p_rgo (by decide +kernel : p_at 41 46 = some (.goto (-42))) (by decide +kernel),
  fun _ _ _ _ _ _ => p_r (by decide +kernel : p_at 41 49 = some (.iload_n 2)) rfl,
  fun _ _ _ _ _ _ _ => p_riret (by decide +kernel : p_at 41 50 = some (.ireturn)) (by decide +kernel)⟩
theorem H41_4 :
  (∀ (scr : pX) (w : pW) (x1 : Int32) (x2 : Int32) (x3 : Int32) (z4 : Value), p_ev scr 41 4 [.ref 1, .int x1, .int x2, .int x3, z4] [] w = p_ev scr 41 5 [.ref 1, .int x1, .int x2, .int x3, z4] [.int x3] w) :=
  fun _ _ _ _ _ _ => p_r (by decide +kernel : p_at 41 4 = some (.iload_n 3)) rfl
-- 42: leafCount
theorem M42 :
  (∀ (scr : pX) (w : pW), p_ev scr 42 0 [.ref 1, p_U, p_U] [] w = p_ev scr 42 1 [.ref 1, p_U, p_U] [.int (nI 1)] w) ∧
  (∀ (scr : pX) (w : pW) (s0 : Int32), p_ev scr 42 1 [.ref 1, p_U, p_U] [.int s0] w = p_ev scr 42 2 [.ref 1, .int s0, p_U] [] w) ∧
  (∀ (scr : pX) (w : pW) (x1 : Int32), p_ev scr 42 2 [.ref 1, .int x1, p_U] [] w = p_ev scr 42 3 [.ref 1, .int x1, p_U] [.int (nI 1)] w) ∧
  (∀ (scr : pX) (w : pW) (x1 : Int32) (s0 : Int32), p_ev scr 42 3 [.ref 1, .int x1, p_U] [.int s0] w = p_ev scr 42 4 [.ref 1, .int x1, .int s0] [] w) ∧
  (∀ (scr : pX) (w : pW) (x1 : Int32) (x2 : Int32) (s0 : Int32), p_ev scr 42 5 [.ref 1, .int x1, .int x2] [.int s0] w = p_ev scr 42 6 [.ref 1, .int x1, .int x2] [.ref 1, .int s0] w) ∧
  (∀ (scr : pX) (w : pW) (x1 : Int32) (x2 : Int32) (s1 : Int32), p_ev scr 42 6 [.ref 1, .int x1, .int x2] [.ref 1, .int s1] w = p_ev scr 42 9 [.ref 1, .int x1, .int x2] [.ref 18, .int s1] w) ∧
  (∀ (scr : pX) (w : pW) (x1 : Int32) (x2 : Int32) (s1 : Int32), p_ev scr 42 9 [.ref 1, .int x1, .int x2] [.ref 18, .int s1] w = p_ev scr 42 10 [.ref 1, .int x1, .int x2] [.int (nI 8), .int s1] w) ∧
  (∀ (scr : pX) (w : pW) (x1 : Int32) (x2 : Int32) (s0 : Int32) (s1 : Int32), p_ev scr 42 10 [.ref 1, .int x1, .int x2] [.int s0, .int s1] w = if s0 ≤ s1 then p_ev scr 42 31 [.ref 1, .int x1, .int x2] [] w else p_ev scr 42 13 [.ref 1, .int x1, .int x2] [] w) ∧
  (∀ (scr : pX) (w : pW) (x1 : Int32) (x2 : Int32), p_ev scr 42 13 [.ref 1, .int x1, .int x2] [] w = p_ev scr 42 14 [.ref 1, .int x1, .int x2] [.ref 1] w) ∧
  (∀ (scr : pX) (w : pW) (x1 : Int32) (x2 : Int32), p_ev scr 42 14 [.ref 1, .int x1, .int x2] [.ref 1] w = p_ev scr 42 17 [.ref 1, .int x1, .int x2] [.ref 18] w) ∧
  (∀ (scr : pX) (w : pW) (x1 : Int32) (x2 : Int32), p_ev scr 42 17 [.ref 1, .int x1, .int x2] [.ref 18] w = p_ev scr 42 18 [.ref 1, .int x1, .int x2] [.int x2, .ref 18] w) ∧
  (∀ (scr : pX) (w : pW) (x1 : Int32) (x2 : Int32) (s0 : Int32), p_out s0 8 = false → p_ev scr 42 18 [.ref 1, .int x1, .int x2] [.int s0, .ref 18] w = p_ev scr 42 19 [.ref 1, .int x1, .int x2] [.int (w.2.2 18 s0.toNatClampNeg)] w) ∧
  (∀ (scr : pX) (w : pW) (x1 : Int32) (x2 : Int32) (s0 : Int32), p_ev scr 42 19 [.ref 1, .int x1, .int x2] [.int s0] w = if s0 = nI 0 then p_ev scr 42 25 [.ref 1, .int x1, .int x2] [] w else p_ev scr 42 22 [.ref 1, .int x1, .int x2] [] w) ∧
  (∀ (scr : pX) (w : pW) (x1 : Int32) (x2 : Int32), p_ev scr 42 22 [.ref 1, .int x1, .int x2] [] w = p_ev scr 42 25 [.ref 1, .int (x1 + (nI 1)), .int x2] [] w) ∧
  (∀ (scr : pX) (w : pW) (x1 : Int32) (x2 : Int32), p_ev scr 42 25 [.ref 1, .int x1, .int x2] [] w = p_ev scr 42 28 [.ref 1, .int x1, .int (x2 + (nI 1))] [] w) ∧
  (∀ (scr : pX) (w : pW) (x1 : Int32) (x2 : Int32), p_ev scr 42 28 [.ref 1, .int x1, .int x2] [] w = p_ev scr 42 4 [.ref 1, .int x1, .int x2] [] w) ∧
  (∀ (scr : pX) (w : pW) (x1 : Int32) (x2 : Int32), p_ev scr 42 31 [.ref 1, .int x1, .int x2] [] w = p_ev scr 42 32 [.ref 1, .int x1, .int x2] [.int x1] w) ∧
  (∀ (scr : pX) (w : pW) (x1 : Int32) (x2 : Int32) (s0 : Int32), p_ev scr 42 32 [.ref 1, .int x1, .int x2] [.int s0] w = some (.inl (some (.int s0)), w, 0)) :=
  ⟨fun _ _ => p_r (by decide +kernel : p_at 42 0 = some (.iconst 1)) rfl,
  fun _ _ _ => p_r (by decide +kernel : p_at 42 1 = some (.istore_n 1)) rfl,
  fun _ _ _ => p_r (by decide +kernel : p_at 42 2 = some (.iconst 1)) rfl,
  fun _ _ _ _ => p_r (by decide +kernel : p_at 42 3 = some (.istore_n 2)) rfl,
  fun _ _ _ _ _ => p_r (by decide +kernel : p_at 42 5 = some (.aload_n 0)) rfl,
  fun _ _ _ _ _ => p_rgf (f := some 18) (by decide +kernel : p_at 42 6 = some (.getfield 9)) (by decide +kernel : p_fld (p_own 42) 9 = some (3, 0)) (rfl : p_ob 1 = some (.inr (3, [some 18, none]))) rfl,
  fun _ _ _ _ _ => p_ralen (by decide +kernel : p_at 42 9 = some (.arraylength)) (rfl : p_ob 18 = some (.inl (3, 8))),
  fun _ _ _ _ _ _ => p_rb2 (c := fun x y => decide (y ≤ x)) (off := 21) (by decide +kernel : p_at 42 10 = some (.if_icmp .ge 21)) (by decide +kernel) rfl rfl rfl,
  fun _ _ _ _ => p_r (by decide +kernel : p_at 42 13 = some (.aload_n 0)) rfl,
  fun _ _ _ _ => p_rgf (f := some 18) (by decide +kernel : p_at 42 14 = some (.getfield 9)) (by decide +kernel : p_fld (p_own 42) 9 = some (3, 0)) (rfl : p_ob 1 = some (.inr (3, [some 18, none]))) rfl,
  fun _ _ _ _ => p_r (by decide +kernel : p_at 42 17 = some (.iload_n 2)) rfl,
  fun _ _ _ _ _ hp => p_rbald (by decide +kernel : p_at 42 18 = some (.baload)) (rfl : p_ob 18 = some (.inl (3, 8))) (by decide) hp,
  fun _ _ _ _ _ => p_rb1 (c := fun x => decide (x = 0)) (off := 6) (by decide +kernel : p_at 42 19 = some (.ifCond .eq 6)) (by decide +kernel) rfl rfl rfl,
  fun _ _ _ _ => p_r (by decide +kernel : p_at 42 22 = some (.iinc 1 1)) rfl,
  fun _ _ _ _ => p_r (by decide +kernel : p_at 42 25 = some (.iinc 2 1)) rfl,
  fun _ _ _ _ => p_rgo (by decide +kernel : p_at 42 28 = some (.goto (-24))) (by decide +kernel),
  fun _ _ _ _ => p_r (by decide +kernel : p_at 42 31 = some (.iload_n 1)) rfl,
  fun _ _ _ _ _ => p_riret (by decide +kernel : p_at 42 32 = some (.ireturn)) (by decide +kernel)⟩
theorem H42_4 :
  (∀ (scr : pX) (w : pW) (x1 : Int32) (x2 : Int32), p_ev scr 42 4 [.ref 1, .int x1, .int x2] [] w = p_ev scr 42 5 [.ref 1, .int x1, .int x2] [.int x2] w) :=
  fun _ _ _ _ => p_r (by decide +kernel : p_at 42 4 = some (.iload_n 2)) rfl
