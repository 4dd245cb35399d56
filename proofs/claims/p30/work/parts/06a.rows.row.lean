/-! what the instructions of LiftingWorkshop$Row do, written by wip/whole/gen/rules.py -/
-- 24: get
theorem M24 (r : Nat) (hr : p_rw r) :
  (∀ (scr : pX) (w : pW) (x1 : Int32), p_ev scr 24 0 [.ref r, .int x1] [] w = p_ev scr 24 1 [.ref r, .int x1] [.int x1] w) ∧
  (∀ (scr : pX) (w : pW) (x1 : Int32) (s0 : Int32), p_ev scr 24 1 [.ref r, .int x1] [.int s0] w = if s0 < nI 0 then p_ev scr 24 22 [.ref r, .int x1] [] w else p_ev scr 24 4 [.ref r, .int x1] [] w) ∧
  (∀ (scr : pX) (w : pW) (x1 : Int32), p_ev scr 24 4 [.ref r, .int x1] [] w = p_ev scr 24 5 [.ref r, .int x1] [.int x1] w) ∧
  (∀ (scr : pX) (w : pW) (x1 : Int32) (s0 : Int32), p_ev scr 24 5 [.ref r, .int x1] [.int s0] w = p_ev scr 24 6 [.ref r, .int x1] [.ref r, .int s0] w) ∧
  (∀ (scr : pX) (w : pW) (x1 : Int32) (s1 : Int32), p_ev scr 24 6 [.ref r, .int x1] [.ref r, .int s1] w = p_ev scr 24 9 [.ref r, .int x1] [.ref (r + 7), .int s1] w) ∧
  (∀ (scr : pX) (w : pW) (x1 : Int32) (s1 : Int32), p_ev scr 24 9 [.ref r, .int x1] [.ref (r + 7), .int s1] w = p_ev scr 24 10 [.ref r, .int x1] [.int (nI 32), .int s1] w) ∧
  (∀ (scr : pX) (w : pW) (x1 : Int32) (s0 : Int32) (s1 : Int32), p_ev scr 24 10 [.ref r, .int x1] [.int s0, .int s1] w = if s0 ≤ s1 then p_ev scr 24 22 [.ref r, .int x1] [] w else p_ev scr 24 13 [.ref r, .int x1] [] w) ∧
  (∀ (scr : pX) (w : pW) (x1 : Int32), p_ev scr 24 13 [.ref r, .int x1] [] w = p_ev scr 24 14 [.ref r, .int x1] [.ref r] w) ∧
  (∀ (scr : pX) (w : pW) (x1 : Int32), p_ev scr 24 14 [.ref r, .int x1] [.ref r] w = p_ev scr 24 17 [.ref r, .int x1] [.ref (r + 7)] w) ∧
  (∀ (scr : pX) (w : pW) (x1 : Int32), p_ev scr 24 17 [.ref r, .int x1] [.ref (r + 7)] w = p_ev scr 24 18 [.ref r, .int x1] [.int x1, .ref (r + 7)] w) ∧
  (∀ (scr : pX) (w : pW) (x1 : Int32) (s0 : Int32), p_out s0 32 = false → p_ev scr 24 18 [.ref r, .int x1] [.int s0, .ref (r + 7)] w = p_ev scr 24 19 [.ref r, .int x1] [.long (w.2.1 (r + 7) s0.toNatClampNeg)] w) ∧
  (∀ (scr : pX) (w : pW) (x1 : Int32) (t0 : Int64), p_ev scr 24 19 [.ref r, .int x1] [.long t0] w = p_ev scr 24 23 [.ref r, .int x1] [.long t0] w) ∧
  (∀ (scr : pX) (w : pW) (x1 : Int32), p_ev scr 24 22 [.ref r, .int x1] [] w = p_ev scr 24 23 [.ref r, .int x1] [.long (lN 0)] w) ∧
  (∀ (scr : pX) (w : pW) (x1 : Int32) (t0 : Int64), p_ev scr 24 23 [.ref r, .int x1] [.long t0] w = some (.inl (some (.long t0)), w, 0)) :=
  ⟨fun _ _ _ => p_r (by decide +kernel : p_at 24 0 = some (.iload_n 1)) rfl,
  fun _ _ _ _ => p_rb1 (c := fun x => decide (x < 0)) (off := 21) (by decide +kernel : p_at 24 1 = some (.ifCond .lt 21)) (by decide +kernel) rfl rfl rfl,
  fun _ _ _ => p_r (by decide +kernel : p_at 24 4 = some (.iload_n 1)) rfl,
  fun _ _ _ _ => p_r (by decide +kernel : p_at 24 5 = some (.aload_n 0)) rfl,
  fun _ _ _ _ => p_rgf (f := some (r + 7)) (by decide +kernel : p_at 24 6 = some (.getfield 9)) (by decide +kernel : p_fld (p_own 24) 9 = some (2, 0)) hr.1 rfl,
  fun _ _ _ _ => p_ralen (by decide +kernel : p_at 24 9 = some (.arraylength)) hr.2,
  fun _ _ _ _ _ => p_rb2 (c := fun x y => decide (y ≤ x)) (off := 12) (by decide +kernel : p_at 24 10 = some (.if_icmp .ge 12)) (by decide +kernel) rfl rfl rfl,
  fun _ _ _ => p_r (by decide +kernel : p_at 24 13 = some (.aload_n 0)) rfl,
  fun _ _ _ => p_rgf (f := some (r + 7)) (by decide +kernel : p_at 24 14 = some (.getfield 9)) (by decide +kernel : p_fld (p_own 24) 9 = some (2, 0)) hr.1 rfl,
  fun _ _ _ => p_r (by decide +kernel : p_at 24 17 = some (.iload_n 1)) rfl,
  fun _ _ _ _ hp => p_rlald (by decide +kernel : p_at 24 18 = some (.laload)) hr.2 hp,
  fun _ _ _ _ => p_rgo (by decide +kernel : p_at 24 19 = some (.goto 4)) (by decide +kernel),
  fun _ _ _ => p_r (by decide +kernel : p_at 24 22 = some (.lconst 0)) rfl,
  fun _ _ _ _ => p_rlret (by decide +kernel : p_at 24 23 = some (.lreturn)) (by decide +kernel)⟩
-- 25: set
theorem M25 (r : Nat) (hr : p_rw r) :
  (∀ (scr : pX) (w : pW) (x1 : Int32) (y2 : Int64), p_ev scr 25 0 [.ref r, .int x1, .long y2, p_U] [] w = p_ev scr 25 1 [.ref r, .int x1, .long y2, p_U] [.int x1] w) ∧
  (∀ (scr : pX) (w : pW) (x1 : Int32) (y2 : Int64) (s0 : Int32), p_ev scr 25 1 [.ref r, .int x1, .long y2, p_U] [.int s0] w = if s0 < nI 0 then p_ev scr 25 20 [.ref r, .int x1, .long y2, p_U] [] w else p_ev scr 25 4 [.ref r, .int x1, .long y2, p_U] [] w) ∧
  (∀ (scr : pX) (w : pW) (x1 : Int32) (y2 : Int64), p_ev scr 25 4 [.ref r, .int x1, .long y2, p_U] [] w = p_ev scr 25 5 [.ref r, .int x1, .long y2, p_U] [.int x1] w) ∧
  (∀ (scr : pX) (w : pW) (x1 : Int32) (y2 : Int64) (s0 : Int32), p_ev scr 25 5 [.ref r, .int x1, .long y2, p_U] [.int s0] w = p_ev scr 25 6 [.ref r, .int x1, .long y2, p_U] [.ref r, .int s0] w) ∧
  (∀ (scr : pX) (w : pW) (x1 : Int32) (y2 : Int64) (s1 : Int32), p_ev scr 25 6 [.ref r, .int x1, .long y2, p_U] [.ref r, .int s1] w = p_ev scr 25 9 [.ref r, .int x1, .long y2, p_U] [.ref (r + 7), .int s1] w) ∧
  (∀ (scr : pX) (w : pW) (x1 : Int32) (y2 : Int64) (s1 : Int32), p_ev scr 25 9 [.ref r, .int x1, .long y2, p_U] [.ref (r + 7), .int s1] w = p_ev scr 25 10 [.ref r, .int x1, .long y2, p_U] [.int (nI 32), .int s1] w) ∧
  (∀ (scr : pX) (w : pW) (x1 : Int32) (y2 : Int64) (s0 : Int32) (s1 : Int32), p_ev scr 25 10 [.ref r, .int x1, .long y2, p_U] [.int s0, .int s1] w = if s0 ≤ s1 then p_ev scr 25 20 [.ref r, .int x1, .long y2, p_U] [] w else p_ev scr 25 13 [.ref r, .int x1, .long y2, p_U] [] w) ∧
  (∀ (scr : pX) (w : pW) (x1 : Int32) (y2 : Int64), p_ev scr 25 13 [.ref r, .int x1, .long y2, p_U] [] w = p_ev scr 25 14 [.ref r, .int x1, .long y2, p_U] [.ref r] w) ∧
  (∀ (scr : pX) (w : pW) (x1 : Int32) (y2 : Int64), p_ev scr 25 14 [.ref r, .int x1, .long y2, p_U] [.ref r] w = p_ev scr 25 17 [.ref r, .int x1, .long y2, p_U] [.ref (r + 7)] w) ∧
  (∀ (scr : pX) (w : pW) (x1 : Int32) (y2 : Int64), p_ev scr 25 17 [.ref r, .int x1, .long y2, p_U] [.ref (r + 7)] w = p_ev scr 25 18 [.ref r, .int x1, .long y2, p_U] [.int x1, .ref (r + 7)] w) ∧
  (∀ (scr : pX) (w : pW) (x1 : Int32) (y2 : Int64) (s0 : Int32), p_ev scr 25 18 [.ref r, .int x1, .long y2, p_U] [.int s0, .ref (r + 7)] w = p_ev scr 25 19 [.ref r, .int x1, .long y2, p_U] [.long y2, .int s0, .ref (r + 7)] w) ∧
  (∀ (scr : pX) (w : pW) (x1 : Int32) (y2 : Int64) (t0 : Int64) (s1 : Int32), p_out s1 32 = false → p_ev scr 25 19 [.ref r, .int x1, .long y2, p_U] [.long t0, .int s1, .ref (r + 7)] w = p_ev scr 25 20 [.ref r, .int x1, .long y2, p_U] [] (w.1, p_u w.2.1 (r + 7) s1.toNatClampNeg t0, w.2.2)) ∧
  (∀ (scr : pX) (w : pW) (x1 : Int32) (y2 : Int64), p_ev scr 25 20 [.ref r, .int x1, .long y2, p_U] [] w = some (.inl none, w, 0)) :=
  ⟨fun _ _ _ _ => p_r (by decide +kernel : p_at 25 0 = some (.iload_n 1)) rfl,
  fun _ _ _ _ _ => p_rb1 (c := fun x => decide (x < 0)) (off := 19) (by decide +kernel : p_at 25 1 = some (.ifCond .lt 19)) (by decide +kernel) rfl rfl rfl,
  fun _ _ _ _ => p_r (by decide +kernel : p_at 25 4 = some (.iload_n 1)) rfl,
  fun _ _ _ _ _ => p_r (by decide +kernel : p_at 25 5 = some (.aload_n 0)) rfl,
  fun _ _ _ _ _ => p_rgf (f := some (r + 7)) (by decide +kernel : p_at 25 6 = some (.getfield 9)) (by decide +kernel : p_fld (p_own 25) 9 = some (2, 0)) hr.1 rfl,
  fun _ _ _ _ _ => p_ralen (by decide +kernel : p_at 25 9 = some (.arraylength)) hr.2,
  fun _ _ _ _ _ _ => p_rb2 (c := fun x y => decide (y ≤ x)) (off := 10) (by decide +kernel : p_at 25 10 = some (.if_icmp .ge 10)) (by decide +kernel) rfl rfl rfl,
  fun _ _ _ _ => p_r (by decide +kernel : p_at 25 13 = some (.aload_n 0)) rfl,
  fun _ _ _ _ => p_rgf (f := some (r + 7)) (by decide +kernel : p_at 25 14 = some (.getfield 9)) (by decide +kernel : p_fld (p_own 25) 9 = some (2, 0)) hr.1 rfl,
  fun _ _ _ _ => p_r (by decide +kernel : p_at 25 17 = some (.iload_n 1)) rfl,
  fun _ _ _ _ _ => p_r (by decide +kernel : p_at 25 18 = some (.lload_n 2)) rfl,
  fun _ _ _ _ _ _ hp => p_rlast (by decide +kernel : p_at 25 19 = some (.lastore)) hr.2 hp,
  fun _ _ _ _ => p_rvret (by decide +kernel : p_at 25 20 = some (.return_)) (by decide +kernel)⟩
-- 26: magnitude
theorem M26 (r : Nat) (hr : p_rw r) :
  (∀ (scr : pX) (w : pW) (x1 : Int32), p_ev scr 26 0 [.ref r, .int x1] [] w = p_ev scr 26 1 [.ref r, .int x1] [.ref r] w) ∧
  (∀ (scr : pX) (w : pW) (x1 : Int32), p_ev scr 26 1 [.ref r, .int x1] [.ref r] w = p_ev scr 26 2 [.ref r, .int x1] [.int x1, .ref r] w) ∧
  (∀ (scr : pX) (w : pW) (x1 : Int32) (s0 : Int32), p_ev scr 26 2 [.ref r, .int x1] [.int s0, .ref r] w = p_bnd scr 26 2 5 [.ref r, .int x1] [] (p_ev none 24 0 [.ref r, .int s0] [] w)) ∧
  (∀ (scr : pX) (w : pW) (x1 : Int32) (t0 : Int64), p_ev scr 26 5 [.ref r, .int x1] [.long t0] w = p_ev scr 26 8 [.ref r, .int x1] [.long (p_abs t0)] w) ∧
  (∀ (scr : pX) (w : pW) (x1 : Int32) (t0 : Int64), p_ev scr 26 8 [.ref r, .int x1] [.long t0] w = some (.inl (some (.long t0)), w, 0)) :=
  ⟨fun _ _ _ => p_r (by decide +kernel : p_at 26 0 = some (.aload_n 0)) rfl,
  fun _ _ _ => p_r (by decide +kernel : p_at 26 1 = some (.iload_n 1)) rfl,
  fun _ _ _ _ => p_rcv (nl := 2) (by decide +kernel : p_at 26 2 = some (.invokevirtual 15)) (by decide +kernel : p_inv (p_own 26) 15 = some (1, 24, 2)) (by decide +kernel) hr.1 rfl rfl (Nat.le_of_ble_eq_true rfl) (Nat.le_of_ble_eq_true rfl) (Nat.le_of_ble_eq_true rfl) rfl,
  fun _ _ _ _ => p_rabs (n := 0) (by decide +kernel : p_at 26 5 = some (.invokestatic 19)) (by decide +kernel) (Nat.le_of_ble_eq_true rfl) (by decide +kernel),
  fun _ _ _ _ => p_rlret (by decide +kernel : p_at 26 8 = some (.lreturn)) (by decide +kernel)⟩
-- 27: clear
theorem M27 (r : Nat) (hr : p_rw r) :
  (∀ (scr : pX) (w : pW), p_ev scr 27 0 [.ref r, p_U] [] w = p_ev scr 27 1 [.ref r, p_U] [.int (nI 0)] w) ∧
  (∀ (scr : pX) (w : pW) (s0 : Int32), p_ev scr 27 1 [.ref r, p_U] [.int s0] w = p_ev scr 27 2 [.ref r, .int s0] [] w) ∧
  (∀ (scr : pX) (w : pW) (x1 : Int32) (s0 : Int32), p_ev scr 27 3 [.ref r, .int x1] [.int s0] w = p_ev scr 27 4 [.ref r, .int x1] [.ref r, .int s0] w) ∧
  (∀ (scr : pX) (w : pW) (x1 : Int32) (s1 : Int32), p_ev scr 27 4 [.ref r, .int x1] [.ref r, .int s1] w = p_ev scr 27 7 [.ref r, .int x1] [.ref (r + 7), .int s1] w) ∧
  (∀ (scr : pX) (w : pW) (x1 : Int32) (s1 : Int32), p_ev scr 27 7 [.ref r, .int x1] [.ref (r + 7), .int s1] w = p_ev scr 27 8 [.ref r, .int x1] [.int (nI 32), .int s1] w) ∧
  (∀ (scr : pX) (w : pW) (x1 : Int32) (s0 : Int32) (s1 : Int32), p_ev scr 27 8 [.ref r, .int x1] [.int s0, .int s1] w = if s0 ≤ s1 then p_ev scr 27 24 [.ref r, .int x1] [] w else p_ev scr 27 11 [.ref r, .int x1] [] w) ∧
  (∀ (scr : pX) (w : pW) (x1 : Int32), p_ev scr 27 11 [.ref r, .int x1] [] w = p_ev scr 27 12 [.ref r, .int x1] [.ref r] w) ∧
  (∀ (scr : pX) (w : pW) (x1 : Int32), p_ev scr 27 12 [.ref r, .int x1] [.ref r] w = p_ev scr 27 15 [.ref r, .int x1] [.ref (r + 7)] w) ∧
  (∀ (scr : pX) (w : pW) (x1 : Int32), p_ev scr 27 15 [.ref r, .int x1] [.ref (r + 7)] w = p_ev scr 27 16 [.ref r, .int x1] [.int x1, .ref (r + 7)] w) ∧
  (∀ (scr : pX) (w : pW) (x1 : Int32) (s0 : Int32), p_ev scr 27 16 [.ref r, .int x1] [.int s0, .ref (r + 7)] w = p_ev scr 27 17 [.ref r, .int x1] [.long (lN 0), .int s0, .ref (r + 7)] w) ∧
  (∀ (scr : pX) (w : pW) (x1 : Int32) (t0 : Int64) (s1 : Int32), p_out s1 32 = false → p_ev scr 27 17 [.ref r, .int x1] [.long t0, .int s1, .ref (r + 7)] w = p_ev scr 27 18 [.ref r, .int x1] [] (w.1, p_u w.2.1 (r + 7) s1.toNatClampNeg t0, w.2.2)) ∧
  (∀ (scr : pX) (w : pW) (x1 : Int32), p_ev scr 27 18 [.ref r, .int x1] [] w = p_ev scr 27 21 [.ref r, .int (x1 + (nI 1))] [] w) ∧
  (∀ (scr : pX) (w : pW) (x1 : Int32), p_ev scr 27 21 [.ref r, .int x1] [] w = p_ev scr 27 2 [.ref r, .int x1] [] w) ∧
  (∀ (scr : pX) (w : pW) (x1 : Int32), p_ev scr 27 24 [.ref r, .int x1] [] w = some (.inl none, w, 0)) :=
  ⟨fun _ _ => p_r (by decide +kernel : p_at 27 0 = some (.iconst 0)) rfl,
  fun _ _ _ => p_r (by decide +kernel : p_at 27 1 = some (.istore_n 1)) rfl,
  fun _ _ _ _ => p_r (by decide +kernel : p_at 27 3 = some (.aload_n 0)) rfl,
  fun _ _ _ _ => p_rgf (f := some (r + 7)) (by decide +kernel : p_at 27 4 = some (.getfield 9)) (by decide +kernel : p_fld (p_own 27) 9 = some (2, 0)) hr.1 rfl,
  fun _ _ _ _ => p_ralen (by decide +kernel : p_at 27 7 = some (.arraylength)) hr.2,
  fun _ _ _ _ _ => p_rb2 (c := fun x y => decide (y ≤ x)) (off := 16) (by decide +kernel : p_at 27 8 = some (.if_icmp .ge 16)) (by decide +kernel) rfl rfl rfl,
  fun _ _ _ => p_r (by decide +kernel : p_at 27 11 = some (.aload_n 0)) rfl,
  fun _ _ _ => p_rgf (f := some (r + 7)) (by decide +kernel : p_at 27 12 = some (.getfield 9)) (by decide +kernel : p_fld (p_own 27) 9 = some (2, 0)) hr.1 rfl,
  fun _ _ _ => p_r (by decide +kernel : p_at 27 15 = some (.iload_n 1)) rfl,
  fun _ _ _ _ => p_r (by decide +kernel : p_at 27 16 = some (.lconst 0)) rfl,
  fun _ _ _ _ _ hp => p_rlast (by decide +kernel : p_at 27 17 = some (.lastore)) hr.2 hp,
  fun _ _ _ => p_r (by decide +kernel : p_at 27 18 = some (.iinc 1 1)) rfl,
  fun _ _ _ => p_rgo (by decide +kernel : p_at 27 21 = some (.goto (-19))) (by decide +kernel),
  fun _ _ _ => p_rvret (by decide +kernel : p_at 27 24 = some (.return_)) (by decide +kernel)⟩
theorem H27_2 (r : Nat) (hr : p_rw r) :
  (∀ (scr : pX) (w : pW) (x1 : Int32), p_ev scr 27 2 [.ref r, .int x1] [] w = p_ev scr 27 3 [.ref r, .int x1] [.int x1] w) :=
  fun _ _ _ => p_r (by decide +kernel : p_at 27 2 = some (.iload_n 1)) rfl
-- 28: copy
theorem M28 (r : Nat) (hr : p_rw r) (r2 : Nat) (hr2 : p_rw r2) :
  (∀ (scr : pX) (w : pW), p_ev scr 28 0 [.ref r, .ref r2, p_U] [] w = p_ev scr 28 1 [.ref r, .ref r2, p_U] [.int (nI 0)] w) ∧
  (∀ (scr : pX) (w : pW) (s0 : Int32), p_ev scr 28 1 [.ref r, .ref r2, p_U] [.int s0] w = p_ev scr 28 2 [.ref r, .ref r2, .int s0] [] w) ∧
  (∀ (scr : pX) (w : pW) (x2 : Int32) (s0 : Int32), p_ev scr 28 3 [.ref r, .ref r2, .int x2] [.int s0] w = p_ev scr 28 4 [.ref r, .ref r2, .int x2] [.ref r, .int s0] w) ∧
  (∀ (scr : pX) (w : pW) (x2 : Int32) (s1 : Int32), p_ev scr 28 4 [.ref r, .ref r2, .int x2] [.ref r, .int s1] w = p_ev scr 28 7 [.ref r, .ref r2, .int x2] [.ref (r + 7), .int s1] w) ∧
  (∀ (scr : pX) (w : pW) (x2 : Int32) (s1 : Int32), p_ev scr 28 7 [.ref r, .ref r2, .int x2] [.ref (r + 7), .int s1] w = p_ev scr 28 8 [.ref r, .ref r2, .int x2] [.int (nI 32), .int s1] w) ∧
  (∀ (scr : pX) (w : pW) (x2 : Int32) (s0 : Int32) (s1 : Int32), p_ev scr 28 8 [.ref r, .ref r2, .int x2] [.int s0, .int s1] w = if s0 ≤ s1 then p_ev scr 28 28 [.ref r, .ref r2, .int x2] [] w else p_ev scr 28 11 [.ref r, .ref r2, .int x2] [] w) ∧
  (∀ (scr : pX) (w : pW) (x2 : Int32), p_ev scr 28 11 [.ref r, .ref r2, .int x2] [] w = p_ev scr 28 12 [.ref r, .ref r2, .int x2] [.ref r] w) ∧
  (∀ (scr : pX) (w : pW) (x2 : Int32), p_ev scr 28 12 [.ref r, .ref r2, .int x2] [.ref r] w = p_ev scr 28 15 [.ref r, .ref r2, .int x2] [.ref (r + 7)] w) ∧
  (∀ (scr : pX) (w : pW) (x2 : Int32), p_ev scr 28 15 [.ref r, .ref r2, .int x2] [.ref (r + 7)] w = p_ev scr 28 16 [.ref r, .ref r2, .int x2] [.int x2, .ref (r + 7)] w) ∧
  (∀ (scr : pX) (w : pW) (x2 : Int32) (s0 : Int32), p_ev scr 28 16 [.ref r, .ref r2, .int x2] [.int s0, .ref (r + 7)] w = p_ev scr 28 17 [.ref r, .ref r2, .int x2] [.ref r2, .int s0, .ref (r + 7)] w) ∧
  (∀ (scr : pX) (w : pW) (x2 : Int32) (s1 : Int32), p_ev scr 28 17 [.ref r, .ref r2, .int x2] [.ref r2, .int s1, .ref (r + 7)] w = p_ev scr 28 18 [.ref r, .ref r2, .int x2] [.int x2, .ref r2, .int s1, .ref (r + 7)] w) ∧
  (∀ (scr : pX) (w : pW) (x2 : Int32) (s0 : Int32) (s2 : Int32), p_ev scr 28 18 [.ref r, .ref r2, .int x2] [.int s0, .ref r2, .int s2, .ref (r + 7)] w = p_bnd scr 28 18 21 [.ref r, .ref r2, .int x2] [.int s2, .ref (r + 7)] (p_ev none 24 0 [.ref r2, .int s0] [] w)) ∧
  (∀ (scr : pX) (w : pW) (x2 : Int32) (t0 : Int64) (s1 : Int32), p_out s1 32 = false → p_ev scr 28 21 [.ref r, .ref r2, .int x2] [.long t0, .int s1, .ref (r + 7)] w = p_ev scr 28 22 [.ref r, .ref r2, .int x2] [] (w.1, p_u w.2.1 (r + 7) s1.toNatClampNeg t0, w.2.2)) ∧
  (∀ (scr : pX) (w : pW) (x2 : Int32), p_ev scr 28 22 [.ref r, .ref r2, .int x2] [] w = p_ev scr 28 25 [.ref r, .ref r2, .int (x2 + (nI 1))] [] w) ∧
  (∀ (scr : pX) (w : pW) (x2 : Int32), p_ev scr 28 25 [.ref r, .ref r2, .int x2] [] w = p_ev scr 28 2 [.ref r, .ref r2, .int x2] [] w) ∧
  (∀ (scr : pX) (w : pW) (x2 : Int32), p_ev scr 28 28 [.ref r, .ref r2, .int x2] [] w = some (.inl none, w, 0)) :=
  ⟨fun _ _ => p_r (by decide +kernel : p_at 28 0 = some (.iconst 0)) rfl,
  fun _ _ _ => p_r (by decide +kernel : p_at 28 1 = some (.istore_n 2)) rfl,
  fun _ _ _ _ => p_r (by decide +kernel : p_at 28 3 = some (.aload_n 0)) rfl,
  fun _ _ _ _ => p_rgf (f := some (r + 7)) (by decide +kernel : p_at 28 4 = some (.getfield 9)) (by decide +kernel : p_fld (p_own 28) 9 = some (2, 0)) hr.1 rfl,
  fun _ _ _ _ => p_ralen (by decide +kernel : p_at 28 7 = some (.arraylength)) hr.2,
  fun _ _ _ _ _ => p_rb2 (c := fun x y => decide (y ≤ x)) (off := 20) (by decide +kernel : p_at 28 8 = some (.if_icmp .ge 20)) (by decide +kernel) rfl rfl rfl,
  fun _ _ _ => p_r (by decide +kernel : p_at 28 11 = some (.aload_n 0)) rfl,
  fun _ _ _ => p_rgf (f := some (r + 7)) (by decide +kernel : p_at 28 12 = some (.getfield 9)) (by decide +kernel : p_fld (p_own 28) 9 = some (2, 0)) hr.1 rfl,
  fun _ _ _ => p_r (by decide +kernel : p_at 28 15 = some (.iload_n 2)) rfl,
  fun _ _ _ _ => p_r (by decide +kernel : p_at 28 16 = some (.aload_n 1)) rfl,
  fun _ _ _ _ => p_r (by decide +kernel : p_at 28 17 = some (.iload_n 2)) rfl,
  fun _ _ _ _ _ => p_rcv (nl := 2) (by decide +kernel : p_at 28 18 = some (.invokevirtual 15)) (by decide +kernel : p_inv (p_own 28) 15 = some (1, 24, 2)) (by decide +kernel) hr2.1 rfl rfl (Nat.le_of_ble_eq_true rfl) (Nat.le_of_ble_eq_true rfl) (Nat.le_of_ble_eq_true rfl) rfl,
  fun _ _ _ _ _ hp => p_rlast (by decide +kernel : p_at 28 21 = some (.lastore)) hr.2 hp,
  fun _ _ _ => p_r (by decide +kernel : p_at 28 22 = some (.iinc 2 1)) rfl,
  fun _ _ _ => p_rgo (by decide +kernel : p_at 28 25 = some (.goto (-23))) (by decide +kernel),
  fun _ _ _ => p_rvret (by decide +kernel : p_at 28 28 = some (.return_)) (by decide +kernel)⟩
theorem H28_2 (r : Nat) (hr : p_rw r) (r2 : Nat) (hr2 : p_rw r2) :
  (∀ (scr : pX) (w : pW) (x2 : Int32), p_ev scr 28 2 [.ref r, .ref r2, .int x2] [] w = p_ev scr 28 3 [.ref r, .ref r2, .int x2] [.int x2] w) :=
  fun _ _ _ => p_r (by decide +kernel : p_at 28 2 = some (.iload_n 2)) rfl
