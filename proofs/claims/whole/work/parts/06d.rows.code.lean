/-! what the instructions of LiftingWorkshop$Code do, written by wip/whole/gen/rules.py -/
-- 1: count
theorem M1 :
  (∀ (scr : pX) (w : pW), p_ev scr 1 0 [.ref 3] [] w = p_ev scr 1 1 [.ref 3] [.ref 3] w) ∧
  (∀ (scr : pX) (w : pW), p_ev scr 1 1 [.ref 3] [.ref 3] w = p_ev scr 1 4 [.ref 3] [.int (w.1 3 5)] w) ∧
  (∀ (scr : pX) (w : pW) (s0 : Int32), p_ev scr 1 4 [.ref 3] [.int s0] w = some (.inl (some (.int s0)), w, 0)) :=
  ⟨fun _ _ => p_r (by decide +kernel : p_at 1 0 = some (.aload_n 0)) rfl,
  fun _ _ => p_rgf (f := none) (by decide +kernel : p_at 1 1 = some (.getfield 31)) (by decide +kernel : p_fld (p_own 1) 31 = some (0, 5)) (rfl : p_ob 3 = some (.inr (0, [some 9, some 10, some 20, some 21, some 22, none, none, none]))) rfl,
  fun _ _ _ => p_riret (by decide +kernel : p_at 1 4 = some (.ireturn)) (by decide +kernel)⟩
-- 2: bit
theorem M2 :
  (∀ (scr : pX) (w : pW) (x1 : Int32), p_ev scr 2 0 [.ref 3, .int x1] [] w = p_ev scr 2 1 [.ref 3, .int x1] [.int x1] w) ∧
  (∀ (scr : pX) (w : pW) (x1 : Int32) (s0 : Int32), p_ev scr 2 1 [.ref 3, .int x1] [.int s0] w = if s0 < nI 0 then p_ev scr 2 28 [.ref 3, .int x1] [] w else p_ev scr 2 4 [.ref 3, .int x1] [] w) ∧
  (∀ (scr : pX) (w : pW) (x1 : Int32), p_ev scr 2 4 [.ref 3, .int x1] [] w = p_ev scr 2 5 [.ref 3, .int x1] [.int x1] w) ∧
  (∀ (scr : pX) (w : pW) (x1 : Int32) (s0 : Int32), p_ev scr 2 5 [.ref 3, .int x1] [.int s0] w = p_ev scr 2 6 [.ref 3, .int x1] [.ref 3, .int s0] w) ∧
  (∀ (scr : pX) (w : pW) (x1 : Int32) (s1 : Int32), p_ev scr 2 6 [.ref 3, .int x1] [.ref 3, .int s1] w = p_ev scr 2 9 [.ref 3, .int x1] [.int (w.1 3 5), .int s1] w) ∧
  (∀ (scr : pX) (w : pW) (x1 : Int32) (s0 : Int32) (s1 : Int32), p_ev scr 2 9 [.ref 3, .int x1] [.int s0, .int s1] w = if s0 ≤ s1 then p_ev scr 2 28 [.ref 3, .int x1] [] w else p_ev scr 2 12 [.ref 3, .int x1] [] w) ∧
  (∀ (scr : pX) (w : pW) (x1 : Int32), p_ev scr 2 12 [.ref 3, .int x1] [] w = p_ev scr 2 13 [.ref 3, .int x1] [.int x1] w) ∧
  (∀ (scr : pX) (w : pW) (x1 : Int32) (s0 : Int32), p_ev scr 2 13 [.ref 3, .int x1] [.int s0] w = p_ev scr 2 16 [.ref 3, .int x1] [.int (nI 4038), .int s0] w) ∧
  (∀ (scr : pX) (w : pW) (x1 : Int32) (s0 : Int32) (s1 : Int32), p_ev scr 2 16 [.ref 3, .int x1] [.int s0, .int s1] w = if s0 ≤ s1 then p_ev scr 2 28 [.ref 3, .int x1] [] w else p_ev scr 2 19 [.ref 3, .int x1] [] w) ∧
  (∀ (scr : pX) (w : pW) (x1 : Int32), p_ev scr 2 19 [.ref 3, .int x1] [] w = p_ev scr 2 20 [.ref 3, .int x1] [.ref 3] w) ∧
  (∀ (scr : pX) (w : pW) (x1 : Int32), p_ev scr 2 20 [.ref 3, .int x1] [.ref 3] w = p_ev scr 2 23 [.ref 3, .int x1] [.ref 20] w) ∧
  (∀ (scr : pX) (w : pW) (x1 : Int32), p_ev scr 2 23 [.ref 3, .int x1] [.ref 20] w = p_ev scr 2 24 [.ref 3, .int x1] [.int x1, .ref 20] w) ∧
  (∀ (scr : pX) (w : pW) (x1 : Int32) (s0 : Int32), p_out s0 4038 = false → p_ev scr 2 24 [.ref 3, .int x1] [.int s0, .ref 20] w = p_ev scr 2 25 [.ref 3, .int x1] [.int (w.2.2 20 s0.toNatClampNeg)] w) ∧
  (∀ (scr : pX) (w : pW) (x1 : Int32) (s0 : Int32), p_ev scr 2 25 [.ref 3, .int x1] [.int s0] w = p_ev scr 2 29 [.ref 3, .int x1] [.int s0] w) ∧
  (∀ (scr : pX) (w : pW) (x1 : Int32), p_ev scr 2 28 [.ref 3, .int x1] [] w = p_ev scr 2 29 [.ref 3, .int x1] [.int (nI 0)] w) ∧
  (∀ (scr : pX) (w : pW) (x1 : Int32) (s0 : Int32), p_ev scr 2 29 [.ref 3, .int x1] [.int s0] w = some (.inl (some (.int s0)), w, 0)) :=
  ⟨fun _ _ _ => p_r (by decide +kernel : p_at 2 0 = some (.iload_n 1)) rfl,
  fun _ _ _ _ => p_rb1 (c := fun x => decide (x < 0)) (off := 27) (by decide +kernel : p_at 2 1 = some (.ifCond .lt 27)) (by decide +kernel) rfl rfl rfl,
  fun _ _ _ => p_r (by decide +kernel : p_at 2 4 = some (.iload_n 1)) rfl,
  fun _ _ _ _ => p_r (by decide +kernel : p_at 2 5 = some (.aload_n 0)) rfl,
  fun _ _ _ _ => p_rgf (f := none) (by decide +kernel : p_at 2 6 = some (.getfield 31)) (by decide +kernel : p_fld (p_own 2) 31 = some (0, 5)) (rfl : p_ob 3 = some (.inr (0, [some 9, some 10, some 20, some 21, some 22, none, none, none]))) rfl,
  fun _ _ _ _ _ => p_rb2 (c := fun x y => decide (y ≤ x)) (off := 19) (by decide +kernel : p_at 2 9 = some (.if_icmp .ge 19)) (by decide +kernel) rfl rfl rfl,
  fun _ _ _ => p_r (by decide +kernel : p_at 2 12 = some (.iload_n 1)) rfl,
  fun _ _ _ _ => p_r (by decide +kernel : p_at 2 13 = some (.sipush 4038)) rfl,
  fun _ _ _ _ _ => p_rb2 (c := fun x y => decide (y ≤ x)) (off := 12) (by decide +kernel : p_at 2 16 = some (.if_icmp .ge 12)) (by decide +kernel) rfl rfl rfl,
  fun _ _ _ => p_r (by decide +kernel : p_at 2 19 = some (.aload_n 0)) rfl,
  fun _ _ _ => p_rgf (f := some 20) (by decide +kernel : p_at 2 20 = some (.getfield 21)) (by decide +kernel : p_fld (p_own 2) 21 = some (0, 2)) (rfl : p_ob 3 = some (.inr (0, [some 9, some 10, some 20, some 21, some 22, none, none, none]))) rfl,
  fun _ _ _ => p_r (by decide +kernel : p_at 2 23 = some (.iload_n 1)) rfl,
  fun _ _ _ _ hp => p_rbald (by decide +kernel : p_at 2 24 = some (.baload)) (rfl : p_ob 20 = some (.inl (0, 4038))) (by decide) hp,
  fun _ _ _ _ => p_rgo (by decide +kernel : p_at 2 25 = some (.goto 4)) (by decide +kernel),
  fun _ _ _ => p_r (by decide +kernel : p_at 2 28 = some (.iconst 0)) rfl,
  fun _ _ _ _ => p_riret (by decide +kernel : p_at 2 29 = some (.ireturn)) (by decide +kernel)⟩
-- 3: write
theorem M3 (r : Nat) (hr : p_rw r) :
  (∀ (scr : pX) (w : pW) (x2 : Int32) (x3 : Int32), p_ev scr 3 0 [.ref 3, .ref r, .int x2, .int x3, p_U, p_U] [] w = p_ev scr 3 1 [.ref 3, .ref r, .int x2, .int x3, p_U, p_U] [.ref 3] w) ∧
  (∀ (scr : pX) (w : pW) (x2 : Int32) (x3 : Int32), p_ev scr 3 1 [.ref 3, .ref r, .int x2, .int x3, p_U, p_U] [.ref 3] w = p_ev scr 3 4 [.ref 3, .ref r, .int x2, .int x3, p_U, p_U] [.ref 9] w) ∧
  (∀ (scr : pX) (w : pW) (x2 : Int32) (x3 : Int32), p_ev scr 3 4 [.ref 3, .ref r, .int x2, .int x3, p_U, p_U] [.ref 9] w = p_ev scr 3 5 [.ref 3, .ref r, .int x2, .int x3, p_U, p_U] [.ref r, .ref 9] w) ∧
  (∀ (scr : pX) (w : pW) (x2 : Int32) (x3 : Int32), p_ev scr 3 5 [.ref 3, .ref r, .int x2, .int x3, p_U, p_U] [.ref r, .ref 9] w = p_bnd scr 3 5 8 [.ref 3, .ref r, .int x2, .int x3, p_U, p_U] [] (p_ev none 28 0 [.ref 9, .ref r, p_U] [] w)) ∧
  (∀ (scr : pX) (w : pW) (x2 : Int32) (x3 : Int32), p_ev scr 3 8 [.ref 3, .ref r, .int x2, .int x3, p_U, p_U] [] w = p_ev scr 3 9 [.ref 3, .ref r, .int x2, .int x3, p_U, p_U] [.ref 3] w) ∧
  (∀ (scr : pX) (w : pW) (x2 : Int32) (x3 : Int32), p_ev scr 3 9 [.ref 3, .ref r, .int x2, .int x3, p_U, p_U] [.ref 3] w = p_ev scr 3 10 [.ref 3, .ref r, .int x2, .int x3, p_U, p_U] [.int x2, .ref 3] w) ∧
  (∀ (scr : pX) (w : pW) (x2 : Int32) (x3 : Int32) (s0 : Int32), p_ev scr 3 10 [.ref 3, .ref r, .int x2, .int x3, p_U, p_U] [.int s0, .ref 3] w = p_ev scr 3 13 [.ref 3, .ref r, .int x2, .int x3, p_U, p_U] [] (p_u w.1 3 6 s0, w.2)) ∧
  (∀ (scr : pX) (w : pW) (x2 : Int32) (x3 : Int32), p_ev scr 3 13 [.ref 3, .ref r, .int x2, .int x3, p_U, p_U] [] w = p_ev scr 3 14 [.ref 3, .ref r, .int x2, .int x3, p_U, p_U] [.ref 3] w) ∧
  (∀ (scr : pX) (w : pW) (x2 : Int32) (x3 : Int32), p_ev scr 3 14 [.ref 3, .ref r, .int x2, .int x3, p_U, p_U] [.ref 3] w = p_ev scr 3 15 [.ref 3, .ref r, .int x2, .int x3, p_U, p_U] [.int x3, .ref 3] w) ∧
  (∀ (scr : pX) (w : pW) (x2 : Int32) (x3 : Int32) (s0 : Int32), p_ev scr 3 15 [.ref 3, .ref r, .int x2, .int x3, p_U, p_U] [.int s0, .ref 3] w = p_ev scr 3 18 [.ref 3, .ref r, .int x2, .int x3, p_U, p_U] [] (p_u w.1 3 7 s0, w.2)) ∧
  (∀ (scr : pX) (w : pW) (x2 : Int32) (x3 : Int32), p_ev scr 3 18 [.ref 3, .ref r, .int x2, .int x3, p_U, p_U] [] w = p_ev scr 3 19 [.ref 3, .ref r, .int x2, .int x3, p_U, p_U] [.ref 3] w) ∧
  (∀ (scr : pX) (w : pW) (x2 : Int32) (x3 : Int32), p_ev scr 3 19 [.ref 3, .ref r, .int x2, .int x3, p_U, p_U] [.ref 3] w = p_ev scr 3 20 [.ref 3, .ref r, .int x2, .int x3, p_U, p_U] [.int (nI 0), .ref 3] w) ∧
  (∀ (scr : pX) (w : pW) (x2 : Int32) (x3 : Int32) (s0 : Int32), p_ev scr 3 20 [.ref 3, .ref r, .int x2, .int x3, p_U, p_U] [.int s0, .ref 3] w = p_ev scr 3 23 [.ref 3, .ref r, .int x2, .int x3, p_U, p_U] [] (p_u w.1 3 5 s0, w.2)) ∧
  (∀ (scr : pX) (w : pW) (x2 : Int32) (x3 : Int32), p_ev scr 3 23 [.ref 3, .ref r, .int x2, .int x3, p_U, p_U] [] w = p_ev scr 3 24 [.ref 3, .ref r, .int x2, .int x3, p_U, p_U] [.ref 3] w) ∧
  (∀ (scr : pX) (w : pW) (x2 : Int32) (x3 : Int32), p_ev scr 3 24 [.ref 3, .ref r, .int x2, .int x3, p_U, p_U] [.ref 3] w = p_bnd scr 3 24 27 [.ref 3, .ref r, .int x2, .int x3, p_U, p_U] [] (p_ev none 6 0 [.ref 3, p_U, p_U, p_U, p_U] [] w)) ∧
  (∀ (scr : pX) (w : pW) (x2 : Int32) (x3 : Int32) (t0 : Int64), p_ev scr 3 27 [.ref 3, .ref r, .int x2, .int x3, p_U, p_U] [.long t0] w = p_bnd scr 3 27 30 [.ref 3, .ref r, .int x2, .int x3, p_U, p_U] [] (p_ev none 86 0 [.long t0, p_U, p_U] [] w)) ∧
  (∀ (scr : pX) (w : pW) (x2 : Int32) (x3 : Int32) (s0 : Int32), p_ev scr 3 30 [.ref 3, .ref r, .int x2, .int x3, p_U, p_U] [.int s0] w = p_ev scr 3 32 [.ref 3, .ref r, .int x2, .int x3, .int s0, p_U] [] w) ∧
  (∀ (scr : pX) (w : pW) (x2 : Int32) (x3 : Int32) (x4 : Int32), p_ev scr 3 32 [.ref 3, .ref r, .int x2, .int x3, .int x4, p_U] [] w = p_ev scr 3 33 [.ref 3, .ref r, .int x2, .int x3, .int x4, p_U] [.int (nI 5)] w) ∧
  (∀ (scr : pX) (w : pW) (x2 : Int32) (x3 : Int32) (x4 : Int32) (s0 : Int32), p_ev scr 3 33 [.ref 3, .ref r, .int x2, .int x3, .int x4, p_U] [.int s0] w = p_ev scr 3 35 [.ref 3, .ref r, .int x2, .int x3, .int x4, .int s0] [] w) ∧
  (∀ (scr : pX) (w : pW) (x2 : Int32) (x3 : Int32) (x4 : Int32) (x5 : Int32) (s0 : Int32), p_ev scr 3 37 [.ref 3, .ref r, .int x2, .int x3, .int x4, .int x5] [.int s0] w = if s0 < nI 0 then p_ev scr 3 57 [.ref 3, .ref r, .int x2, .int x3, .int x4, .int x5] [] w else p_ev scr 3 40 [.ref 3, .ref r, .int x2, .int x3, .int x4, .int x5] [] w) ∧
  (∀ (scr : pX) (w : pW) (x2 : Int32) (x3 : Int32) (x4 : Int32) (x5 : Int32), p_ev scr 3 40 [.ref 3, .ref r, .int x2, .int x3, .int x4, .int x5] [] w = p_ev scr 3 41 [.ref 3, .ref r, .int x2, .int x3, .int x4, .int x5] [.ref 3] w) ∧
  (∀ (scr : pX) (w : pW) (x2 : Int32) (x3 : Int32) (x4 : Int32) (x5 : Int32), p_ev scr 3 41 [.ref 3, .ref r, .int x2, .int x3, .int x4, .int x5] [.ref 3] w = p_ev scr 3 43 [.ref 3, .ref r, .int x2, .int x3, .int x4, .int x5] [.int x4, .ref 3] w) ∧
  (∀ (scr : pX) (w : pW) (x2 : Int32) (x3 : Int32) (x4 : Int32) (x5 : Int32) (s0 : Int32), p_ev scr 3 43 [.ref 3, .ref r, .int x2, .int x3, .int x4, .int x5] [.int s0, .ref 3] w = p_ev scr 3 45 [.ref 3, .ref r, .int x2, .int x3, .int x4, .int x5] [.int x5, .int s0, .ref 3] w) ∧
  (∀ (scr : pX) (w : pW) (x2 : Int32) (x3 : Int32) (x4 : Int32) (x5 : Int32) (s0 : Int32) (s1 : Int32), p_ev scr 3 45 [.ref 3, .ref r, .int x2, .int x3, .int x4, .int x5] [.int s0, .int s1, .ref 3] w = p_ev scr 3 46 [.ref 3, .ref r, .int x2, .int x3, .int x4, .int x5] [.int (s1 >>> (s0 &&& 31)), .ref 3] w) ∧
  (∀ (scr : pX) (w : pW) (x2 : Int32) (x3 : Int32) (x4 : Int32) (x5 : Int32) (s0 : Int32), p_ev scr 3 46 [.ref 3, .ref r, .int x2, .int x3, .int x4, .int x5] [.int s0, .ref 3] w = p_ev scr 3 47 [.ref 3, .ref r, .int x2, .int x3, .int x4, .int x5] [.int (nI 1), .int s0, .ref 3] w) ∧
  (∀ (scr : pX) (w : pW) (x2 : Int32) (x3 : Int32) (x4 : Int32) (x5 : Int32) (s0 : Int32) (s1 : Int32), p_ev scr 3 47 [.ref 3, .ref r, .int x2, .int x3, .int x4, .int x5] [.int s0, .int s1, .ref 3] w = p_ev scr 3 48 [.ref 3, .ref r, .int x2, .int x3, .int x4, .int x5] [.int (s1 &&& s0), .ref 3] w) ∧
  (∀ (scr : pX) (w : pW) (x2 : Int32) (x3 : Int32) (x4 : Int32) (x5 : Int32) (s0 : Int32), p_ev scr 3 48 [.ref 3, .ref r, .int x2, .int x3, .int x4, .int x5] [.int s0, .ref 3] w = p_bnd scr 3 48 51 [.ref 3, .ref r, .int x2, .int x3, .int x4, .int x5] [] (p_ev none 12 0 [.ref 3, .int s0] [] w)) ∧
  (∀ (scr : pX) (w : pW) (x2 : Int32) (x3 : Int32) (x4 : Int32) (x5 : Int32), p_ev scr 3 51 [.ref 3, .ref r, .int x2, .int x3, .int x4, .int x5] [] w = p_ev scr 3 54 [.ref 3, .ref r, .int x2, .int x3, .int x4, .int (x5 + (-1 : Int32))] [] w) ∧
  (∀ (scr : pX) (w : pW) (x2 : Int32) (x3 : Int32) (x4 : Int32) (x5 : Int32), p_ev scr 3 54 [.ref 3, .ref r, .int x2, .int x3, .int x4, .int x5] [] w = p_ev scr 3 35 [.ref 3, .ref r, .int x2, .int x3, .int x4, .int x5] [] w) ∧
  (∀ (scr : pX) (w : pW) (x2 : Int32) (x3 : Int32) (x4 : Int32) (x5 : Int32), p_ev scr 3 57 [.ref 3, .ref r, .int x2, .int x3, .int x4, .int x5] [] w = p_ev scr 3 59 [.ref 3, .ref r, .int x2, .int x3, .int x4, .int x5] [.int x4] w) ∧
  (∀ (scr : pX) (w : pW) (x2 : Int32) (x3 : Int32) (x4 : Int32) (x5 : Int32) (s0 : Int32), p_ev scr 3 59 [.ref 3, .ref r, .int x2, .int x3, .int x4, .int x5] [.int s0] w = p_ev scr 3 60 [.ref 3, .ref r, .int x2, .int x3, .int x4, .int x5] [.int (nI 1), .int s0] w) ∧
  (∀ (scr : pX) (w : pW) (x2 : Int32) (x3 : Int32) (x4 : Int32) (x5 : Int32) (s0 : Int32) (s1 : Int32), p_ev scr 3 60 [.ref 3, .ref r, .int x2, .int x3, .int x4, .int x5] [.int s0, .int s1] w = p_ev scr 3 61 [.ref 3, .ref r, .int x2, .int x3, .int x4, .int x5] [.int (s1 - s0)] w) ∧
  (∀ (scr : pX) (w : pW) (x2 : Int32) (x3 : Int32) (x4 : Int32) (x5 : Int32) (s0 : Int32), p_ev scr 3 61 [.ref 3, .ref r, .int x2, .int x3, .int x4, .int x5] [.int s0] w = p_ev scr 3 63 [.ref 3, .ref r, .int x2, .int x3, .int x4, .int s0] [] w) ∧
  (∀ (scr : pX) (w : pW) (x2 : Int32) (x3 : Int32) (x4 : Int32) (x5 : Int32) (s0 : Int32), p_ev scr 3 65 [.ref 3, .ref r, .int x2, .int x3, .int x4, .int x5] [.int s0] w = if s0 < nI 0 then p_ev scr 3 86 [.ref 3, .ref r, .int x2, .int x3, .int x4, .int x5] [] w else p_ev scr 3 68 [.ref 3, .ref r, .int x2, .int x3, .int x4, .int x5] [] w) ∧
  (∀ (scr : pX) (w : pW) (x2 : Int32) (x3 : Int32) (x4 : Int32) (x5 : Int32), p_ev scr 3 68 [.ref 3, .ref r, .int x2, .int x3, .int x4, .int x5] [] w = p_ev scr 3 69 [.ref 3, .ref r, .int x2, .int x3, .int x4, .int x5] [.ref 3] w) ∧
  (∀ (scr : pX) (w : pW) (x2 : Int32) (x3 : Int32) (x4 : Int32) (x5 : Int32), p_ev scr 3 69 [.ref 3, .ref r, .int x2, .int x3, .int x4, .int x5] [.ref 3] w = p_ev scr 3 71 [.ref 3, .ref r, .int x2, .int x3, .int x4, .int x5] [.int x5, .ref 3] w) ∧
  (∀ (scr : pX) (w : pW) (x2 : Int32) (x3 : Int32) (x4 : Int32) (x5 : Int32) (s0 : Int32), p_ev scr 3 71 [.ref 3, .ref r, .int x2, .int x3, .int x4, .int x5] [.int s0, .ref 3] w = p_bnd scr 3 71 74 [.ref 3, .ref r, .int x2, .int x3, .int x4, .int x5] [] (p_ev none 7 0 [.ref 3, .int s0, p_U, p_U, p_U] [] w)) ∧
  (∀ (scr : pX) (w : pW) (x2 : Int32) (x3 : Int32) (x4 : Int32) (x5 : Int32), p_ev scr 3 74 [.ref 3, .ref r, .int x2, .int x3, .int x4, .int x5] [] w = p_ev scr 3 75 [.ref 3, .ref r, .int x2, .int x3, .int x4, .int x5] [.ref 3] w) ∧
  (∀ (scr : pX) (w : pW) (x2 : Int32) (x3 : Int32) (x4 : Int32) (x5 : Int32), p_ev scr 3 75 [.ref 3, .ref r, .int x2, .int x3, .int x4, .int x5] [.ref 3] w = p_ev scr 3 77 [.ref 3, .ref r, .int x2, .int x3, .int x4, .int x5] [.int x5, .ref 3] w) ∧
  (∀ (scr : pX) (w : pW) (x2 : Int32) (x3 : Int32) (x4 : Int32) (x5 : Int32) (s0 : Int32), p_ev scr 3 77 [.ref 3, .ref r, .int x2, .int x3, .int x4, .int x5] [.int s0, .ref 3] w = p_bnd scr 3 77 80 [.ref 3, .ref r, .int x2, .int x3, .int x4, .int x5] [] (p_ev none 8 0 [.ref 3, .int s0, p_U, p_U, p_U] [] w)) ∧
  (∀ (scr : pX) (w : pW) (x2 : Int32) (x3 : Int32) (x4 : Int32) (x5 : Int32), p_ev scr 3 80 [.ref 3, .ref r, .int x2, .int x3, .int x4, .int x5] [] w = p_ev scr 3 83 [.ref 3, .ref r, .int x2, .int x3, .int x4, .int (x5 + (-1 : Int32))] [] w) ∧
  (∀ (scr : pX) (w : pW) (x2 : Int32) (x3 : Int32) (x4 : Int32) (x5 : Int32), p_ev scr 3 83 [.ref 3, .ref r, .int x2, .int x3, .int x4, .int x5] [] w = p_ev scr 3 63 [.ref 3, .ref r, .int x2, .int x3, .int x4, .int x5] [] w) ∧
  (∀ (scr : pX) (w : pW) (x2 : Int32) (x3 : Int32) (x4 : Int32) (x5 : Int32), p_ev scr 3 86 [.ref 3, .ref r, .int x2, .int x3, .int x4, .int x5] [] w = some (.inl none, w, 0)) :=
  ⟨fun _ _ _ _ => p_r (by decide +kernel : p_at 3 0 = some (.aload_n 0)) rfl,
  fun _ _ _ _ => p_rgf (f := some 9) (by decide +kernel : p_at 3 1 = some (.getfield 14)) (by decide +kernel : p_fld (p_own 3) 14 = some (0, 0)) (rfl : p_ob 3 = some (.inr (0, [some 9, some 10, some 20, some 21, some 22, none, none, none]))) rfl,
  fun _ _ _ _ => p_r (by decide +kernel : p_at 3 4 = some (.aload_n 1)) rfl,
  fun _ _ _ _ => p_rcv (nl := 3) (by decide +kernel : p_at 3 5 = some (.invokevirtual 35)) (by decide +kernel : p_inv (p_own 3) 35 = some (1, 28, 2)) (by decide +kernel) (rfl : p_ob 9 = some (.inr (2, [some 16]))) rfl rfl (Nat.le_of_ble_eq_true rfl) (Nat.le_of_ble_eq_true rfl) (Nat.le_of_ble_eq_true rfl) rfl,
  fun _ _ _ _ => p_r (by decide +kernel : p_at 3 8 = some (.aload_n 0)) rfl,
  fun _ _ _ _ => p_r (by decide +kernel : p_at 3 9 = some (.iload_n 2)) rfl,
  fun _ _ _ _ _ => p_rpf (by decide +kernel : p_at 3 10 = some (.putfield 39)) (by decide +kernel : p_fld (p_own 3) 39 = some (0, 6)) (rfl : p_ob 3 = some (.inr (0, [some 9, some 10, some 20, some 21, some 22, none, none, none]))) rfl,
  fun _ _ _ _ => p_r (by decide +kernel : p_at 3 13 = some (.aload_n 0)) rfl,
  fun _ _ _ _ => p_r (by decide +kernel : p_at 3 14 = some (.iload_n 3)) rfl,
  fun _ _ _ _ _ => p_rpf (by decide +kernel : p_at 3 15 = some (.putfield 42)) (by decide +kernel : p_fld (p_own 3) 42 = some (0, 7)) (rfl : p_ob 3 = some (.inr (0, [some 9, some 10, some 20, some 21, some 22, none, none, none]))) rfl,
  fun _ _ _ _ => p_r (by decide +kernel : p_at 3 18 = some (.aload_n 0)) rfl,
  fun _ _ _ _ => p_r (by decide +kernel : p_at 3 19 = some (.iconst 0)) rfl,
  fun _ _ _ _ _ => p_rpf (by decide +kernel : p_at 3 20 = some (.putfield 31)) (by decide +kernel : p_fld (p_own 3) 31 = some (0, 5)) (rfl : p_ob 3 = some (.inr (0, [some 9, some 10, some 20, some 21, some 22, none, none, none]))) rfl,
  fun _ _ _ _ => p_r (by decide +kernel : p_at 3 23 = some (.aload_n 0)) rfl,
  fun _ _ _ _ => p_rcv (nl := 5) (by decide +kernel : p_at 3 24 = some (.invokevirtual 45)) (by decide +kernel : p_inv (p_own 3) 45 = some (1, 6, 1)) (by decide +kernel) (rfl : p_ob 3 = some (.inr (0, [some 9, some 10, some 20, some 21, some 22, none, none, none]))) rfl rfl (Nat.le_of_ble_eq_true rfl) (Nat.le_of_ble_eq_true rfl) (Nat.le_of_ble_eq_true rfl) rfl,
  fun _ _ _ _ _ => p_rcs (nl := 3) (by decide +kernel : p_at 3 27 = some (.invokestatic 49)) (by decide +kernel : p_inv (p_own 3) 49 = some (1, 86, 1)) (by decide +kernel) rfl rfl (Nat.le_of_ble_eq_true rfl) (Nat.le_of_ble_eq_true rfl) (Nat.le_of_ble_eq_true rfl) rfl,
  fun _ _ _ _ _ => p_r (by decide +kernel : p_at 3 30 = some (.istore 4)) rfl,
  fun _ _ _ _ _ => p_r (by decide +kernel : p_at 3 32 = some (.iconst 5)) rfl,
  fun _ _ _ _ _ _ => p_r (by decide +kernel : p_at 3 33 = some (.istore 5)) rfl,
  fun _ _ _ _ _ _ _ => p_rb1 (c := fun x => decide (x < 0)) (off := 20) (by decide +kernel : p_at 3 37 = some (.ifCond .lt 20)) (by decide +kernel) rfl rfl rfl,
  fun _ _ _ _ _ _ => p_r (by decide +kernel : p_at 3 40 = some (.aload_n 0)) rfl,
  fun _ _ _ _ _ _ => p_r (by decide +kernel : p_at 3 41 = some (.iload 4)) rfl,
  fun _ _ _ _ _ _ _ => p_r (by decide +kernel : p_at 3 43 = some (.iload 5)) rfl,
  fun _ _ _ _ _ _ _ _ => p_r (by decide +kernel : p_at 3 45 = some (.ishr)) rfl,
  fun _ _ _ _ _ _ _ => p_r (by decide +kernel : p_at 3 46 = some (.iconst 1)) rfl,
  fun _ _ _ _ _ _ _ _ => p_r (by decide +kernel : p_at 3 47 = some (.iand)) rfl,
  fun _ _ _ _ _ _ _ => p_rcv (nl := 2) (by decide +kernel : p_at 3 48 = some (.invokevirtual 53)) (by decide +kernel : p_inv (p_own 3) 53 = some (1, 12, 2)) (by decide +kernel) (rfl : p_ob 3 = some (.inr (0, [some 9, some 10, some 20, some 21, some 22, none, none, none]))) rfl rfl (Nat.le_of_ble_eq_true rfl) (Nat.le_of_ble_eq_true rfl) (Nat.le_of_ble_eq_true rfl) rfl,
  fun _ _ _ _ _ _ => p_r (by decide +kernel : p_at 3 51 = some (.iinc 5 (-1))) rfl,
  fun _ _ _ _ _ _ => p_rgo (by decide +kernel : p_at 3 54 = some (.goto (-19))) (by decide +kernel),
  fun _ _ _ _ _ _ => p_r (by decide +kernel : p_at 3 57 = some (.iload 4)) rfl,
  fun _ _ _ _ _ _ _ => p_r (by decide +kernel : p_at 3 59 = some (.iconst 1)) rfl,
  fun _ _ _ _ _ _ _ _ => p_r (by decide +kernel : p_at 3 60 = some (.isub)) rfl,
  fun _ _ _ _ _ _ _ => p_r (by decide +kernel : p_at 3 61 = some (.istore 5)) rfl,
  fun _ _ _ _ _ _ _ => p_rb1 (c := fun x => decide (x < 0)) (off := 21) (by decide +kernel : p_at 3 65 = some (.ifCond .lt 21)) (by decide +kernel) rfl rfl rfl,
  fun _ _ _ _ _ _ => p_r (by decide +kernel : p_at 3 68 = some (.aload_n 0)) rfl,
  fun _ _ _ _ _ _ => p_r (by decide +kernel : p_at 3 69 = some (.iload 5)) rfl,
  fun _ _ _ _ _ _ _ => p_rcv (nl := 5) (by decide +kernel : p_at 3 71 = some (.invokevirtual 57)) (by decide +kernel : p_inv (p_own 3) 57 = some (1, 7, 2)) (by decide +kernel) (rfl : p_ob 3 = some (.inr (0, [some 9, some 10, some 20, some 21, some 22, none, none, none]))) rfl rfl (Nat.le_of_ble_eq_true rfl) (Nat.le_of_ble_eq_true rfl) (Nat.le_of_ble_eq_true rfl) rfl,
  fun _ _ _ _ _ _ => p_r (by decide +kernel : p_at 3 74 = some (.aload_n 0)) rfl,
  fun _ _ _ _ _ _ => p_r (by decide +kernel : p_at 3 75 = some (.iload 5)) rfl,
  fun _ _ _ _ _ _ _ => p_rcv (nl := 5) (by decide +kernel : p_at 3 77 = some (.invokevirtual 60)) (by decide +kernel : p_inv (p_own 3) 60 = some (1, 8, 2)) (by decide +kernel) (rfl : p_ob 3 = some (.inr (0, [some 9, some 10, some 20, some 21, some 22, none, none, none]))) rfl rfl (Nat.le_of_ble_eq_true rfl) (Nat.le_of_ble_eq_true rfl) (Nat.le_of_ble_eq_true rfl) rfl,
  fun _ _ _ _ _ _ => p_r (by decide +kernel : p_at 3 80 = some (.iinc 5 (-1))) rfl,
  fun _ _ _ _ _ _ => p_rgo (by decide +kernel : p_at 3 83 = some (.goto (-20))) (by decide +kernel),
  fun _ _ _ _ _ _ => p_rvret (by decide +kernel : p_at 3 86 = some (.return_)) (by decide +kernel)⟩
theorem H3_35 (r : Nat) (hr : p_rw r) :
  (∀ (scr : pX) (w : pW) (x2 : Int32) (x3 : Int32) (x4 : Int32) (x5 : Int32), p_ev scr 3 35 [.ref 3, .ref r, .int x2, .int x3, .int x4, .int x5] [] w = p_ev scr 3 37 [.ref 3, .ref r, .int x2, .int x3, .int x4, .int x5] [.int x5] w) :=
  fun _ _ _ _ _ _ => p_r (by decide +kernel : p_at 3 35 = some (.iload 5)) rfl
theorem H3_63 (r : Nat) (hr : p_rw r) :
  (∀ (scr : pX) (w : pW) (x2 : Int32) (x3 : Int32) (x4 : Int32) (x5 : Int32), p_ev scr 3 63 [.ref 3, .ref r, .int x2, .int x3, .int x4, .int x5] [] w = p_ev scr 3 65 [.ref 3, .ref r, .int x2, .int x3, .int x4, .int x5] [.int x5] w) :=
  fun _ _ _ _ _ _ => p_r (by decide +kernel : p_at 3 63 = some (.iload 5)) rfl
-- 4: tell
theorem M4 (r : Nat) (hr : p_rw r) :
  (∀ (scr : pX) (w : pW) (x1 : Int32), p_ev scr 4 0 [.ref 3, .int x1, .ref r, p_U] [] w = p_ev scr 4 1 [.ref 3, .int x1, .ref r, p_U] [.int x1] w) ∧
  (∀ (scr : pX) (w : pW) (x1 : Int32) (s0 : Int32), p_ev scr 4 1 [.ref 3, .int x1, .ref r, p_U] [.int s0] w = if s0 < nI 0 then p_ev scr 4 19 [.ref 3, .int x1, .ref r, p_U] [] w else p_ev scr 4 4 [.ref 3, .int x1, .ref r, p_U] [] w) ∧
  (∀ (scr : pX) (w : pW) (x1 : Int32), p_ev scr 4 4 [.ref 3, .int x1, .ref r, p_U] [] w = p_ev scr 4 5 [.ref 3, .int x1, .ref r, p_U] [.int x1] w) ∧
  (∀ (scr : pX) (w : pW) (x1 : Int32) (s0 : Int32), p_ev scr 4 5 [.ref 3, .int x1, .ref r, p_U] [.int s0] w = p_ev scr 4 6 [.ref 3, .int x1, .ref r, p_U] [.ref 3, .int s0] w) ∧
  (∀ (scr : pX) (w : pW) (x1 : Int32) (s1 : Int32), p_ev scr 4 6 [.ref 3, .int x1, .ref r, p_U] [.ref 3, .int s1] w = p_ev scr 4 9 [.ref 3, .int x1, .ref r, p_U] [.int (w.1 3 5), .int s1] w) ∧
  (∀ (scr : pX) (w : pW) (x1 : Int32) (s0 : Int32) (s1 : Int32), p_ev scr 4 9 [.ref 3, .int x1, .ref r, p_U] [.int s0, .int s1] w = if s0 ≤ s1 then p_ev scr 4 19 [.ref 3, .int x1, .ref r, p_U] [] w else p_ev scr 4 12 [.ref 3, .int x1, .ref r, p_U] [] w) ∧
  (∀ (scr : pX) (w : pW) (x1 : Int32), p_ev scr 4 12 [.ref 3, .int x1, .ref r, p_U] [] w = p_ev scr 4 13 [.ref 3, .int x1, .ref r, p_U] [.int x1] w) ∧
  (∀ (scr : pX) (w : pW) (x1 : Int32) (s0 : Int32), p_ev scr 4 13 [.ref 3, .int x1, .ref r, p_U] [.int s0] w = p_ev scr 4 16 [.ref 3, .int x1, .ref r, p_U] [.int (nI 4038), .int s0] w) ∧
  (∀ (scr : pX) (w : pW) (x1 : Int32) (s0 : Int32) (s1 : Int32), p_ev scr 4 16 [.ref 3, .int x1, .ref r, p_U] [.int s0, .int s1] w = if s1 < s0 then p_ev scr 4 21 [.ref 3, .int x1, .ref r, p_U] [] w else p_ev scr 4 19 [.ref 3, .int x1, .ref r, p_U] [] w) ∧
  (∀ (scr : pX) (w : pW) (x1 : Int32), p_ev scr 4 19 [.ref 3, .int x1, .ref r, p_U] [] w = p_ev scr 4 20 [.ref 3, .int x1, .ref r, p_U] [.int (nI 0)] w) ∧
  (∀ (scr : pX) (w : pW) (x1 : Int32) (s0 : Int32), narrow .boolean (.int s0) = .int s0 → p_ev scr 4 20 [.ref 3, .int x1, .ref r, p_U] [.int s0] w = some (.inl (some (.int s0)), w, 0)) ∧
  (∀ (scr : pX) (w : pW) (x1 : Int32), p_ev scr 4 21 [.ref 3, .int x1, .ref r, p_U] [] w = p_ev scr 4 22 [.ref 3, .int x1, .ref r, p_U] [.ref 3] w) ∧
  (∀ (scr : pX) (w : pW) (x1 : Int32), p_ev scr 4 22 [.ref 3, .int x1, .ref r, p_U] [.ref 3] w = p_ev scr 4 25 [.ref 3, .int x1, .ref r, p_U] [.ref 21] w) ∧
  (∀ (scr : pX) (w : pW) (x1 : Int32), p_ev scr 4 25 [.ref 3, .int x1, .ref r, p_U] [.ref 21] w = p_ev scr 4 26 [.ref 3, .int x1, .ref r, p_U] [.int x1, .ref 21] w) ∧
  (∀ (scr : pX) (w : pW) (x1 : Int32) (s0 : Int32), p_out s0 4038 = false → p_ev scr 4 26 [.ref 3, .int x1, .ref r, p_U] [.int s0, .ref 21] w = p_ev scr 4 27 [.ref 3, .int x1, .ref r, p_U] [.int (w.2.2 21 s0.toNatClampNeg)] w) ∧
  (∀ (scr : pX) (w : pW) (x1 : Int32) (s0 : Int32), p_ev scr 4 27 [.ref 3, .int x1, .ref r, p_U] [.int s0] w = p_ev scr 4 28 [.ref 3, .int x1, .ref r, .int s0] [] w) ∧
  (∀ (scr : pX) (w : pW) (x1 : Int32) (x3 : Int32), p_ev scr 4 28 [.ref 3, .int x1, .ref r, .int x3] [] w = p_ev scr 4 29 [.ref 3, .int x1, .ref r, .int x3] [.int x3] w) ∧
  (∀ (scr : pX) (w : pW) (x1 : Int32) (x3 : Int32) (s0 : Int32), p_ev scr 4 29 [.ref 3, .int x1, .ref r, .int x3] [.int s0] w = p_ev scr 4 30 [.ref 3, .int x1, .ref r, .int x3] [.int (-1 : Int32), .int s0] w) ∧
  (∀ (scr : pX) (w : pW) (x1 : Int32) (x3 : Int32) (s0 : Int32) (s1 : Int32), p_ev scr 4 30 [.ref 3, .int x1, .ref r, .int x3] [.int s0, .int s1] w = if ¬ s1 = s0 then p_ev scr 4 35 [.ref 3, .int x1, .ref r, .int x3] [] w else p_ev scr 4 33 [.ref 3, .int x1, .ref r, .int x3] [] w) ∧
  (∀ (scr : pX) (w : pW) (x1 : Int32) (x3 : Int32), p_ev scr 4 33 [.ref 3, .int x1, .ref r, .int x3] [] w = p_ev scr 4 34 [.ref 3, .int x1, .ref r, .int x3] [.int (nI 0)] w) ∧
  (∀ (scr : pX) (w : pW) (x1 : Int32) (x3 : Int32) (s0 : Int32), narrow .boolean (.int s0) = .int s0 → p_ev scr 4 34 [.ref 3, .int x1, .ref r, .int x3] [.int s0] w = some (.inl (some (.int s0)), w, 0)) ∧
  (∀ (scr : pX) (w : pW) (x1 : Int32) (x3 : Int32), p_ev scr 4 35 [.ref 3, .int x1, .ref r, .int x3] [] w = p_ev scr 4 36 [.ref 3, .int x1, .ref r, .int x3] [.ref r] w) ∧
  (∀ (scr : pX) (w : pW) (x1 : Int32) (x3 : Int32), p_ev scr 4 36 [.ref 3, .int x1, .ref r, .int x3] [.ref r] w = p_ev scr 4 37 [.ref 3, .int x1, .ref r, .int x3] [.int x3, .ref r] w) ∧
  (∀ (scr : pX) (w : pW) (x1 : Int32) (x3 : Int32) (s0 : Int32), p_ev scr 4 37 [.ref 3, .int x1, .ref r, .int x3] [.int s0, .ref r] w = p_ev scr 4 38 [.ref 3, .int x1, .ref r, .int x3] [.ref 3, .int s0, .ref r] w) ∧
  (∀ (scr : pX) (w : pW) (x1 : Int32) (x3 : Int32) (s1 : Int32), p_ev scr 4 38 [.ref 3, .int x1, .ref r, .int x3] [.ref 3, .int s1, .ref r] w = p_ev scr 4 39 [.ref 3, .int x1, .ref r, .int x3] [.int x3, .ref 3, .int s1, .ref r] w) ∧
  (∀ (scr : pX) (w : pW) (x1 : Int32) (x3 : Int32) (s0 : Int32) (s2 : Int32), p_ev scr 4 39 [.ref 3, .int x1, .ref r, .int x3] [.int s0, .ref 3, .int s2, .ref r] w = p_ev scr 4 40 [.ref 3, .int x1, .ref r, .int x3] [.ref 3, .int s0, .ref 3, .int s2, .ref r] w) ∧
  (∀ (scr : pX) (w : pW) (x1 : Int32) (x3 : Int32) (s1 : Int32) (s3 : Int32), p_ev scr 4 40 [.ref 3, .int x1, .ref r, .int x3] [.ref 3, .int s1, .ref 3, .int s3, .ref r] w = p_ev scr 4 43 [.ref 3, .int x1, .ref r, .int x3] [.ref 22, .int s1, .ref 3, .int s3, .ref r] w) ∧
  (∀ (scr : pX) (w : pW) (x1 : Int32) (x3 : Int32) (s1 : Int32) (s3 : Int32), p_ev scr 4 43 [.ref 3, .int x1, .ref r, .int x3] [.ref 22, .int s1, .ref 3, .int s3, .ref r] w = p_ev scr 4 44 [.ref 3, .int x1, .ref r, .int x3] [.int x1, .ref 22, .int s1, .ref 3, .int s3, .ref r] w) ∧
  (∀ (scr : pX) (w : pW) (x1 : Int32) (x3 : Int32) (s0 : Int32) (s2 : Int32) (s4 : Int32), p_out s0 4038 = false → p_ev scr 4 44 [.ref 3, .int x1, .ref r, .int x3] [.int s0, .ref 22, .int s2, .ref 3, .int s4, .ref r] w = p_ev scr 4 45 [.ref 3, .int x1, .ref r, .int x3] [.int (w.2.2 22 s0.toNatClampNeg), .int s2, .ref 3, .int s4, .ref r] w) ∧
  (∀ (scr : pX) (w : pW) (x1 : Int32) (x3 : Int32) (s0 : Int32) (s1 : Int32) (s3 : Int32), p_ev scr 4 45 [.ref 3, .int x1, .ref r, .int x3] [.int s0, .int s1, .ref 3, .int s3, .ref r] w = p_bnd scr 4 45 48 [.ref 3, .int x1, .ref r, .int x3] [.int s3, .ref r] (p_ev none 5 0 [.ref 3, .int s1, .int s0, p_U, p_U] [] w)) ∧
  (∀ (scr : pX) (w : pW) (x1 : Int32) (x3 : Int32) (t0 : Int64) (s1 : Int32), p_ev scr 4 48 [.ref 3, .int x1, .ref r, .int x3] [.long t0, .int s1, .ref r] w = p_bnd scr 4 48 51 [.ref 3, .int x1, .ref r, .int x3] [] (p_ev none 25 0 [.ref r, .int s1, .long t0, p_U] [] w)) ∧
  (∀ (scr : pX) (w : pW) (x1 : Int32) (x3 : Int32), p_ev scr 4 51 [.ref 3, .int x1, .ref r, .int x3] [] w = p_ev scr 4 52 [.ref 3, .int x1, .ref r, .int x3] [.int (nI 1)] w) ∧
  (∀ (scr : pX) (w : pW) (x1 : Int32) (x3 : Int32) (s0 : Int32), narrow .boolean (.int s0) = .int s0 → p_ev scr 4 52 [.ref 3, .int x1, .ref r, .int x3] [.int s0] w = some (.inl (some (.int s0)), w, 0)) :=
  ⟨fun _ _ _ => p_r (by decide +kernel : p_at 4 0 = some (.iload_n 1)) rfl,
  fun _ _ _ _ => p_rb1 (c := fun x => decide (x < 0)) (off := 18) (by decide +kernel : p_at 4 1 = some (.ifCond .lt 18)) (by decide +kernel) rfl rfl rfl,
  fun _ _ _ => p_r (by decide +kernel : p_at 4 4 = some (.iload_n 1)) rfl,
  fun _ _ _ _ => p_r (by decide +kernel : p_at 4 5 = some (.aload_n 0)) rfl,
  fun _ _ _ _ => p_rgf (f := none) (by decide +kernel : p_at 4 6 = some (.getfield 31)) (by decide +kernel : p_fld (p_own 4) 31 = some (0, 5)) (rfl : p_ob 3 = some (.inr (0, [some 9, some 10, some 20, some 21, some 22, none, none, none]))) rfl,
  fun _ _ _ _ _ => p_rb2 (c := fun x y => decide (y ≤ x)) (off := 10) (by decide +kernel : p_at 4 9 = some (.if_icmp .ge 10)) (by decide +kernel) rfl rfl rfl,
  fun _ _ _ => p_r (by decide +kernel : p_at 4 12 = some (.iload_n 1)) rfl,
  fun _ _ _ _ => p_r (by decide +kernel : p_at 4 13 = some (.sipush 4038)) rfl,
  fun _ _ _ _ _ => p_rb2 (c := fun x y => decide (x < y)) (off := 5) (by decide +kernel : p_at 4 16 = some (.if_icmp .lt 5)) (by decide +kernel) rfl rfl rfl,
  fun _ _ _ => p_r (by decide +kernel : p_at 4 19 = some (.iconst 0)) rfl,
  fun _ _ _ _ hp => p_rzret (by decide +kernel : p_at 4 20 = some (.ireturn)) (by decide +kernel) hp,
  fun _ _ _ => p_r (by decide +kernel : p_at 4 21 = some (.aload_n 0)) rfl,
  fun _ _ _ => p_rgf (f := some 21) (by decide +kernel : p_at 4 22 = some (.getfield 25)) (by decide +kernel : p_fld (p_own 4) 25 = some (0, 3)) (rfl : p_ob 3 = some (.inr (0, [some 9, some 10, some 20, some 21, some 22, none, none, none]))) rfl,
  fun _ _ _ => p_r (by decide +kernel : p_at 4 25 = some (.iload_n 1)) rfl,
  fun _ _ _ _ hp => p_rbald (by decide +kernel : p_at 4 26 = some (.baload)) (rfl : p_ob 21 = some (.inl (0, 4038))) (by decide) hp,
  fun _ _ _ _ => p_r (by decide +kernel : p_at 4 27 = some (.istore_n 3)) rfl,
  fun _ _ _ _ => p_r (by decide +kernel : p_at 4 28 = some (.iload_n 3)) rfl,
  fun _ _ _ _ _ => p_r (by decide +kernel : p_at 4 29 = some (.iconst (-1))) rfl,
  fun _ _ _ _ _ _ => p_rb2 (c := fun x y => decide (¬ x = y)) (off := 5) (by decide +kernel : p_at 4 30 = some (.if_icmp .ne 5)) (by decide +kernel) rfl rfl rfl,
  fun _ _ _ _ => p_r (by decide +kernel : p_at 4 33 = some (.iconst 0)) rfl,
  fun _ _ _ _ _ hp => p_rzret (by decide +kernel : p_at 4 34 = some (.ireturn)) (by decide +kernel) hp,
  fun _ _ _ _ => p_r (by decide +kernel : p_at 4 35 = some (.aload_n 2)) rfl,
  fun _ _ _ _ => p_r (by decide +kernel : p_at 4 36 = some (.iload_n 3)) rfl,
  fun _ _ _ _ _ => p_r (by decide +kernel : p_at 4 37 = some (.aload_n 0)) rfl,
  fun _ _ _ _ _ => p_r (by decide +kernel : p_at 4 38 = some (.iload_n 3)) rfl,
  fun _ _ _ _ _ _ => p_r (by decide +kernel : p_at 4 39 = some (.aload_n 0)) rfl,
  fun _ _ _ _ _ _ => p_rgf (f := some 22) (by decide +kernel : p_at 4 40 = some (.getfield 28)) (by decide +kernel : p_fld (p_own 4) 28 = some (0, 4)) (rfl : p_ob 3 = some (.inr (0, [some 9, some 10, some 20, some 21, some 22, none, none, none]))) rfl,
  fun _ _ _ _ _ _ => p_r (by decide +kernel : p_at 4 43 = some (.iload_n 1)) rfl,
  fun _ _ _ _ _ _ _ hp => p_rbald (by decide +kernel : p_at 4 44 = some (.baload)) (rfl : p_ob 22 = some (.inl (0, 4038))) (by decide) hp,
  fun _ _ _ _ _ _ _ => p_rcv (nl := 5) (by decide +kernel : p_at 4 45 = some (.invokevirtual 63)) (by decide +kernel : p_inv (p_own 4) 63 = some (1, 5, 3)) (by decide +kernel) (rfl : p_ob 3 = some (.inr (0, [some 9, some 10, some 20, some 21, some 22, none, none, none]))) rfl rfl (Nat.le_of_ble_eq_true rfl) (Nat.le_of_ble_eq_true rfl) (Nat.le_of_ble_eq_true rfl) rfl,
  fun _ _ _ _ _ _ => p_rcv (nl := 4) (by decide +kernel : p_at 4 48 = some (.invokevirtual 67)) (by decide +kernel : p_inv (p_own 4) 67 = some (1, 25, 3)) (by decide +kernel) hr.1 rfl rfl (Nat.le_of_ble_eq_true rfl) (Nat.le_of_ble_eq_true rfl) (Nat.le_of_ble_eq_true rfl) rfl,
  fun _ _ _ _ => p_r (by decide +kernel : p_at 4 51 = some (.iconst 1)) rfl,
  fun _ _ _ _ _ hp => p_rzret (by decide +kernel : p_at 4 52 = some (.ireturn)) (by decide +kernel) hp⟩
-- 5: knownDownTo
theorem M5 :
  (∀ (scr : pX) (w : pW) (x1 : Int32) (x2 : Int32), p_ev scr 5 0 [.ref 3, .int x1, .int x2, p_U, p_U] [] w = p_ev scr 5 1 [.ref 3, .int x1, .int x2, p_U, p_U] [.ref 3] w) ∧
  (∀ (scr : pX) (w : pW) (x1 : Int32) (x2 : Int32), p_ev scr 5 1 [.ref 3, .int x1, .int x2, p_U, p_U] [.ref 3] w = p_ev scr 5 4 [.ref 3, .int x1, .int x2, p_U, p_U] [.ref 9] w) ∧
  (∀ (scr : pX) (w : pW) (x1 : Int32) (x2 : Int32), p_ev scr 5 4 [.ref 3, .int x1, .int x2, p_U, p_U] [.ref 9] w = p_ev scr 5 5 [.ref 3, .int x1, .int x2, p_U, p_U] [.int x1, .ref 9] w) ∧
  (∀ (scr : pX) (w : pW) (x1 : Int32) (x2 : Int32) (s0 : Int32), p_ev scr 5 5 [.ref 3, .int x1, .int x2, p_U, p_U] [.int s0, .ref 9] w = p_bnd scr 5 5 8 [.ref 3, .int x1, .int x2, p_U, p_U] [] (p_ev none 26 0 [.ref 9, .int s0] [] w)) ∧
  (∀ (scr : pX) (w : pW) (x1 : Int32) (x2 : Int32) (t0 : Int64), p_ev scr 5 8 [.ref 3, .int x1, .int x2, p_U, p_U] [.long t0] w = p_ev scr 5 9 [.ref 3, .int x1, .int x2, p_U, p_U] [.int x2, .long t0] w) ∧
  (∀ (scr : pX) (w : pW) (x1 : Int32) (x2 : Int32) (s0 : Int32) (t1 : Int64), p_ev scr 5 9 [.ref 3, .int x1, .int x2, p_U, p_U] [.int s0, .long t1] w = p_ev scr 5 10 [.ref 3, .int x1, .int x2, p_U, p_U] [.long (t1 >>> (s0.toInt64 &&& 63))] w) ∧
  (∀ (scr : pX) (w : pW) (x1 : Int32) (x2 : Int32) (t0 : Int64), p_ev scr 5 10 [.ref 3, .int x1, .int x2, p_U, p_U] [.long t0] w = p_ev scr 5 11 [.ref 3, .int x1, .int x2, p_U, p_U] [.int x2, .long t0] w) ∧
  (∀ (scr : pX) (w : pW) (x1 : Int32) (x2 : Int32) (s0 : Int32) (t1 : Int64), p_ev scr 5 11 [.ref 3, .int x1, .int x2, p_U, p_U] [.int s0, .long t1] w = p_ev scr 5 12 [.ref 3, .int x1, .int x2, p_U, p_U] [.long (t1 <<< (s0.toInt64 &&& 63))] w) ∧
  (∀ (scr : pX) (w : pW) (x1 : Int32) (x2 : Int32) (t0 : Int64), p_ev scr 5 12 [.ref 3, .int x1, .int x2, p_U, p_U] [.long t0] w = p_ev scr 5 13 [.ref 3, .int x1, .int x2, .long t0, p_U] [] w) ∧
  (∀ (scr : pX) (w : pW) (x1 : Int32) (x2 : Int32) (y3 : Int64), p_ev scr 5 13 [.ref 3, .int x1, .int x2, .long y3, p_U] [] w = p_ev scr 5 14 [.ref 3, .int x1, .int x2, .long y3, p_U] [.int x2] w) ∧
  (∀ (scr : pX) (w : pW) (x1 : Int32) (x2 : Int32) (y3 : Int64) (s0 : Int32), p_ev scr 5 14 [.ref 3, .int x1, .int x2, .long y3, p_U] [.int s0] w = if s0 ≤ nI 0 then p_ev scr 5 25 [.ref 3, .int x1, .int x2, .long y3, p_U] [] w else p_ev scr 5 17 [.ref 3, .int x1, .int x2, .long y3, p_U] [] w) ∧
  (∀ (scr : pX) (w : pW) (x1 : Int32) (x2 : Int32) (y3 : Int64), p_ev scr 5 17 [.ref 3, .int x1, .int x2, .long y3, p_U] [] w = p_ev scr 5 18 [.ref 3, .int x1, .int x2, .long y3, p_U] [.long y3] w) ∧
  (∀ (scr : pX) (w : pW) (x1 : Int32) (x2 : Int32) (y3 : Int64) (t0 : Int64), p_ev scr 5 18 [.ref 3, .int x1, .int x2, .long y3, p_U] [.long t0] w = p_ev scr 5 19 [.ref 3, .int x1, .int x2, .long y3, p_U] [.long (lN 1), .long t0] w) ∧
  (∀ (scr : pX) (w : pW) (x1 : Int32) (x2 : Int32) (y3 : Int64) (t0 : Int64) (t1 : Int64), p_ev scr 5 19 [.ref 3, .int x1, .int x2, .long y3, p_U] [.long t0, .long t1] w = p_ev scr 5 20 [.ref 3, .int x1, .int x2, .long y3, p_U] [.int x2, .long t0, .long t1] w) ∧
  (∀ (scr : pX) (w : pW) (x1 : Int32) (x2 : Int32) (y3 : Int64) (s0 : Int32) (t1 : Int64) (t2 : Int64), p_ev scr 5 20 [.ref 3, .int x1, .int x2, .long y3, p_U] [.int s0, .long t1, .long t2] w = p_ev scr 5 21 [.ref 3, .int x1, .int x2, .long y3, p_U] [.int (nI 1), .int s0, .long t1, .long t2] w) ∧
  (∀ (scr : pX) (w : pW) (x1 : Int32) (x2 : Int32) (y3 : Int64) (s0 : Int32) (s1 : Int32) (t2 : Int64) (t3 : Int64), p_ev scr 5 21 [.ref 3, .int x1, .int x2, .long y3, p_U] [.int s0, .int s1, .long t2, .long t3] w = p_ev scr 5 22 [.ref 3, .int x1, .int x2, .long y3, p_U] [.int (s1 - s0), .long t2, .long t3] w) ∧
  (∀ (scr : pX) (w : pW) (x1 : Int32) (x2 : Int32) (y3 : Int64) (s0 : Int32) (t1 : Int64) (t2 : Int64), p_ev scr 5 22 [.ref 3, .int x1, .int x2, .long y3, p_U] [.int s0, .long t1, .long t2] w = p_ev scr 5 23 [.ref 3, .int x1, .int x2, .long y3, p_U] [.long (t1 <<< (s0.toInt64 &&& 63)), .long t2] w) ∧
  (∀ (scr : pX) (w : pW) (x1 : Int32) (x2 : Int32) (y3 : Int64) (t0 : Int64) (t1 : Int64), p_ev scr 5 23 [.ref 3, .int x1, .int x2, .long y3, p_U] [.long t0, .long t1] w = p_ev scr 5 24 [.ref 3, .int x1, .int x2, .long y3, p_U] [.long (t1 + t0)] w) ∧
  (∀ (scr : pX) (w : pW) (x1 : Int32) (x2 : Int32) (y3 : Int64) (t0 : Int64), p_ev scr 5 24 [.ref 3, .int x1, .int x2, .long y3, p_U] [.long t0] w = p_ev scr 5 25 [.ref 3, .int x1, .int x2, .long t0, p_U] [] w) ∧
  (∀ (scr : pX) (w : pW) (x1 : Int32) (x2 : Int32) (y3 : Int64), p_ev scr 5 25 [.ref 3, .int x1, .int x2, .long y3, p_U] [] w = p_ev scr 5 26 [.ref 3, .int x1, .int x2, .long y3, p_U] [.ref 3] w) ∧
  (∀ (scr : pX) (w : pW) (x1 : Int32) (x2 : Int32) (y3 : Int64), p_ev scr 5 26 [.ref 3, .int x1, .int x2, .long y3, p_U] [.ref 3] w = p_ev scr 5 29 [.ref 3, .int x1, .int x2, .long y3, p_U] [.ref 9] w) ∧
  (∀ (scr : pX) (w : pW) (x1 : Int32) (x2 : Int32) (y3 : Int64), p_ev scr 5 29 [.ref 3, .int x1, .int x2, .long y3, p_U] [.ref 9] w = p_ev scr 5 30 [.ref 3, .int x1, .int x2, .long y3, p_U] [.int x1, .ref 9] w) ∧
  (∀ (scr : pX) (w : pW) (x1 : Int32) (x2 : Int32) (y3 : Int64) (s0 : Int32), p_ev scr 5 30 [.ref 3, .int x1, .int x2, .long y3, p_U] [.int s0, .ref 9] w = p_bnd scr 5 30 33 [.ref 3, .int x1, .int x2, .long y3, p_U] [] (p_ev none 24 0 [.ref 9, .int s0] [] w)) ∧
  (∀ (scr : pX) (w : pW) (x1 : Int32) (x2 : Int32) (y3 : Int64) (t0 : Int64), p_ev scr 5 33 [.ref 3, .int x1, .int x2, .long y3, p_U] [.long t0] w = p_ev scr 5 34 [.ref 3, .int x1, .int x2, .long y3, p_U] [.long (lN 0), .long t0] w) ∧
  (∀ (scr : pX) (w : pW) (x1 : Int32) (x2 : Int32) (y3 : Int64) (t0 : Int64) (t1 : Int64), p_ev scr 5 34 [.ref 3, .int x1, .int x2, .long y3, p_U] [.long t0, .long t1] w = p_ev scr 5 35 [.ref 3, .int x1, .int x2, .long y3, p_U] [.int (lg_cmp t1 t0)] w) ∧
  (∀ (scr : pX) (w : pW) (x1 : Int32) (x2 : Int32) (y3 : Int64) (s0 : Int32), p_ev scr 5 35 [.ref 3, .int x1, .int x2, .long y3, p_U] [.int s0] w = if nI 0 ≤ s0 then p_ev scr 5 43 [.ref 3, .int x1, .int x2, .long y3, p_U] [] w else p_ev scr 5 38 [.ref 3, .int x1, .int x2, .long y3, p_U] [] w) ∧
  (∀ (scr : pX) (w : pW) (x1 : Int32) (x2 : Int32) (y3 : Int64), p_ev scr 5 38 [.ref 3, .int x1, .int x2, .long y3, p_U] [] w = p_ev scr 5 39 [.ref 3, .int x1, .int x2, .long y3, p_U] [.long y3] w) ∧
  (∀ (scr : pX) (w : pW) (x1 : Int32) (x2 : Int32) (y3 : Int64) (t0 : Int64), p_ev scr 5 39 [.ref 3, .int x1, .int x2, .long y3, p_U] [.long t0] w = p_ev scr 5 40 [.ref 3, .int x1, .int x2, .long y3, p_U] [.long (-t0)] w) ∧
  (∀ (scr : pX) (w : pW) (x1 : Int32) (x2 : Int32) (y3 : Int64) (t0 : Int64), p_ev scr 5 40 [.ref 3, .int x1, .int x2, .long y3, p_U] [.long t0] w = p_ev scr 5 44 [.ref 3, .int x1, .int x2, .long y3, p_U] [.long t0] w) ∧
  (∀ (scr : pX) (w : pW) (x1 : Int32) (x2 : Int32) (y3 : Int64), p_ev scr 5 43 [.ref 3, .int x1, .int x2, .long y3, p_U] [] w = p_ev scr 5 44 [.ref 3, .int x1, .int x2, .long y3, p_U] [.long y3] w) ∧
  (∀ (scr : pX) (w : pW) (x1 : Int32) (x2 : Int32) (y3 : Int64) (t0 : Int64), p_ev scr 5 44 [.ref 3, .int x1, .int x2, .long y3, p_U] [.long t0] w = some (.inl (some (.long t0)), w, 0)) :=
  ⟨fun _ _ _ _ => p_r (by decide +kernel : p_at 5 0 = some (.aload_n 0)) rfl,
  fun _ _ _ _ => p_rgf (f := some 9) (by decide +kernel : p_at 5 1 = some (.getfield 14)) (by decide +kernel : p_fld (p_own 5) 14 = some (0, 0)) (rfl : p_ob 3 = some (.inr (0, [some 9, some 10, some 20, some 21, some 22, none, none, none]))) rfl,
  fun _ _ _ _ => p_r (by decide +kernel : p_at 5 4 = some (.iload_n 1)) rfl,
  fun _ _ _ _ _ => p_rcv (nl := 2) (by decide +kernel : p_at 5 5 = some (.invokevirtual 71)) (by decide +kernel : p_inv (p_own 5) 71 = some (1, 26, 2)) (by decide +kernel) (rfl : p_ob 9 = some (.inr (2, [some 16]))) rfl rfl (Nat.le_of_ble_eq_true rfl) (Nat.le_of_ble_eq_true rfl) (Nat.le_of_ble_eq_true rfl) rfl,
  fun _ _ _ _ _ => p_r (by decide +kernel : p_at 5 8 = some (.iload_n 2)) rfl,
  fun _ _ _ _ _ _ => p_r (by decide +kernel : p_at 5 9 = some (.lshr)) rfl,
  fun _ _ _ _ _ => p_r (by decide +kernel : p_at 5 10 = some (.iload_n 2)) rfl,
  fun _ _ _ _ _ _ => p_r (by decide +kernel : p_at 5 11 = some (.lshl)) rfl,
  fun _ _ _ _ _ => p_r (by decide +kernel : p_at 5 12 = some (.lstore_n 3)) rfl,
  fun _ _ _ _ _ => p_r (by decide +kernel : p_at 5 13 = some (.iload_n 2)) rfl,
  fun _ _ _ _ _ _ => p_rb1 (c := fun x => decide (x ≤ 0)) (off := 11) (by decide +kernel : p_at 5 14 = some (.ifCond .le 11)) (by decide +kernel) rfl rfl rfl,
  fun _ _ _ _ _ => p_r (by decide +kernel : p_at 5 17 = some (.lload_n 3)) rfl,
  fun _ _ _ _ _ _ => p_r (by decide +kernel : p_at 5 18 = some (.lconst 1)) rfl,
  fun _ _ _ _ _ _ _ => p_r (by decide +kernel : p_at 5 19 = some (.iload_n 2)) rfl,
  fun _ _ _ _ _ _ _ _ => p_r (by decide +kernel : p_at 5 20 = some (.iconst 1)) rfl,
  fun _ _ _ _ _ _ _ _ _ => p_r (by decide +kernel : p_at 5 21 = some (.isub)) rfl,
  fun _ _ _ _ _ _ _ _ => p_r (by decide +kernel : p_at 5 22 = some (.lshl)) rfl,
  fun _ _ _ _ _ _ _ => p_r (by decide +kernel : p_at 5 23 = some (.ladd)) rfl,
  fun _ _ _ _ _ _ => p_r (by decide +kernel : p_at 5 24 = some (.lstore_n 3)) rfl,
  fun _ _ _ _ _ => p_r (by decide +kernel : p_at 5 25 = some (.aload_n 0)) rfl,
  fun _ _ _ _ _ => p_rgf (f := some 9) (by decide +kernel : p_at 5 26 = some (.getfield 14)) (by decide +kernel : p_fld (p_own 5) 14 = some (0, 0)) (rfl : p_ob 3 = some (.inr (0, [some 9, some 10, some 20, some 21, some 22, none, none, none]))) rfl,
  fun _ _ _ _ _ => p_r (by decide +kernel : p_at 5 29 = some (.iload_n 1)) rfl,
  fun _ _ _ _ _ _ => p_rcv (nl := 2) (by decide +kernel : p_at 5 30 = some (.invokevirtual 75)) (by decide +kernel : p_inv (p_own 5) 75 = some (1, 24, 2)) (by decide +kernel) (rfl : p_ob 9 = some (.inr (2, [some 16]))) rfl rfl (Nat.le_of_ble_eq_true rfl) (Nat.le_of_ble_eq_true rfl) (Nat.le_of_ble_eq_true rfl) rfl,
  fun _ _ _ _ _ _ => p_r (by decide +kernel : p_at 5 33 = some (.lconst 0)) rfl,
  fun _ _ _ _ _ _ _ => p_r (by decide +kernel : p_at 5 34 = some (.lcmp)) rfl,
  fun _ _ _ _ _ _ => p_rb1 (c := fun x => decide (0 ≤ x)) (off := 8) (by decide +kernel : p_at 5 35 = some (.ifCond .ge 8)) (by decide +kernel) rfl rfl rfl,
  fun _ _ _ _ _ => p_r (by decide +kernel : p_at 5 38 = some (.lload_n 3)) rfl,
  fun _ _ _ _ _ _ => p_r (by decide +kernel : p_at 5 39 = some (.lneg)) rfl,
  fun _ _ _ _ _ _ => p_rgo (by decide +kernel : p_at 5 40 = some (.goto 4)) (by decide +kernel),
  fun _ _ _ _ _ => p_r (by decide +kernel : p_at 5 43 = some (.lload_n 3)) rfl,
  fun _ _ _ _ _ _ => p_rlret (by decide +kernel : p_at 5 44 = some (.lreturn)) (by decide +kernel)⟩
-- 6: measureReach
theorem M6 :
  (∀ (scr : pX) (w : pW), p_ev scr 6 0 [.ref 3, p_U, p_U, p_U, p_U] [] w = p_ev scr 6 1 [.ref 3, p_U, p_U, p_U, p_U] [.long (lN 0)] w) ∧
  (∀ (scr : pX) (w : pW) (t0 : Int64), p_ev scr 6 1 [.ref 3, p_U, p_U, p_U, p_U] [.long t0] w = p_ev scr 6 2 [.ref 3, .long t0, p_U, p_U, p_U] [] w) ∧
  (∀ (scr : pX) (w : pW) (y1 : Int64), p_ev scr 6 2 [.ref 3, .long y1, p_U, p_U, p_U] [] w = p_ev scr 6 3 [.ref 3, .long y1, p_U, p_U, p_U] [.int (nI 0)] w) ∧
  (∀ (scr : pX) (w : pW) (y1 : Int64) (s0 : Int32), p_ev scr 6 3 [.ref 3, .long y1, p_U, p_U, p_U] [.int s0] w = p_ev scr 6 4 [.ref 3, .long y1, p_U, .int s0, p_U] [] w) ∧
  (∀ (scr : pX) (w : pW) (y1 : Int64) (x3 : Int32) (s0 : Int32), p_ev scr 6 5 [.ref 3, .long y1, p_U, .int x3, p_U] [.int s0] w = p_ev scr 6 6 [.ref 3, .long y1, p_U, .int x3, p_U] [.ref 3, .int s0] w) ∧
  (∀ (scr : pX) (w : pW) (y1 : Int64) (x3 : Int32) (s1 : Int32), p_ev scr 6 6 [.ref 3, .long y1, p_U, .int x3, p_U] [.ref 3, .int s1] w = p_ev scr 6 9 [.ref 3, .long y1, p_U, .int x3, p_U] [.int (w.1 3 6), .int s1] w) ∧
  (∀ (scr : pX) (w : pW) (y1 : Int64) (x3 : Int32) (s0 : Int32) (s1 : Int32), p_ev scr 6 9 [.ref 3, .long y1, p_U, .int x3, p_U] [.int s0, .int s1] w = if s0 ≤ s1 then p_ev scr 6 47 [.ref 3, .long y1, p_U, .int x3, p_U] [] w else p_ev scr 6 12 [.ref 3, .long y1, p_U, .int x3, p_U] [] w) ∧
  (∀ (scr : pX) (w : pW) (y1 : Int64) (x3 : Int32), p_ev scr 6 12 [.ref 3, .long y1, p_U, .int x3, p_U] [] w = p_ev scr 6 13 [.ref 3, .long y1, p_U, .int x3, p_U] [.ref 3] w) ∧
  (∀ (scr : pX) (w : pW) (y1 : Int64) (x3 : Int32), p_ev scr 6 13 [.ref 3, .long y1, p_U, .int x3, p_U] [.ref 3] w = p_ev scr 6 16 [.ref 3, .long y1, p_U, .int x3, p_U] [.ref 10] w) ∧
  (∀ (scr : pX) (w : pW) (y1 : Int64) (x3 : Int32), p_ev scr 6 16 [.ref 3, .long y1, p_U, .int x3, p_U] [.ref 10] w = p_ev scr 6 17 [.ref 3, .long y1, p_U, .int x3, p_U] [.int x3, .ref 10] w) ∧
  (∀ (scr : pX) (w : pW) (y1 : Int64) (x3 : Int32) (s0 : Int32), p_ev scr 6 17 [.ref 3, .long y1, p_U, .int x3, p_U] [.int s0, .ref 10] w = p_ev scr 6 18 [.ref 3, .long y1, p_U, .int x3, p_U] [.ref 3, .int s0, .ref 10] w) ∧
  (∀ (scr : pX) (w : pW) (y1 : Int64) (x3 : Int32) (s1 : Int32), p_ev scr 6 18 [.ref 3, .long y1, p_U, .int x3, p_U] [.ref 3, .int s1, .ref 10] w = p_ev scr 6 21 [.ref 3, .long y1, p_U, .int x3, p_U] [.ref 9, .int s1, .ref 10] w) ∧
  (∀ (scr : pX) (w : pW) (y1 : Int64) (x3 : Int32) (s1 : Int32), p_ev scr 6 21 [.ref 3, .long y1, p_U, .int x3, p_U] [.ref 9, .int s1, .ref 10] w = p_ev scr 6 22 [.ref 3, .long y1, p_U, .int x3, p_U] [.int x3, .ref 9, .int s1, .ref 10] w) ∧
  (∀ (scr : pX) (w : pW) (y1 : Int64) (x3 : Int32) (s0 : Int32) (s2 : Int32), p_ev scr 6 22 [.ref 3, .long y1, p_U, .int x3, p_U] [.int s0, .ref 9, .int s2, .ref 10] w = p_bnd scr 6 22 25 [.ref 3, .long y1, p_U, .int x3, p_U] [.int s2, .ref 10] (p_ev none 26 0 [.ref 9, .int s0] [] w)) ∧
  (∀ (scr : pX) (w : pW) (y1 : Int64) (x3 : Int32) (t0 : Int64) (s1 : Int32), p_ev scr 6 25 [.ref 3, .long y1, p_U, .int x3, p_U] [.long t0, .int s1, .ref 10] w = p_bnd scr 6 25 28 [.ref 3, .long y1, p_U, .int x3, p_U] [] (p_ev none 25 0 [.ref 10, .int s1, .long t0, p_U] [] w)) ∧
  (∀ (scr : pX) (w : pW) (y1 : Int64) (x3 : Int32), p_ev scr 6 28 [.ref 3, .long y1, p_U, .int x3, p_U] [] w = p_ev scr 6 29 [.ref 3, .long y1, p_U, .int x3, p_U] [.long y1] w) ∧
  (∀ (scr : pX) (w : pW) (y1 : Int64) (x3 : Int32) (t0 : Int64), p_ev scr 6 29 [.ref 3, .long y1, p_U, .int x3, p_U] [.long t0] w = p_ev scr 6 30 [.ref 3, .long y1, p_U, .int x3, p_U] [.ref 3, .long t0] w) ∧
  (∀ (scr : pX) (w : pW) (y1 : Int64) (x3 : Int32) (t1 : Int64), p_ev scr 6 30 [.ref 3, .long y1, p_U, .int x3, p_U] [.ref 3, .long t1] w = p_ev scr 6 33 [.ref 3, .long y1, p_U, .int x3, p_U] [.ref 9, .long t1] w) ∧
  (∀ (scr : pX) (w : pW) (y1 : Int64) (x3 : Int32) (t1 : Int64), p_ev scr 6 33 [.ref 3, .long y1, p_U, .int x3, p_U] [.ref 9, .long t1] w = p_ev scr 6 34 [.ref 3, .long y1, p_U, .int x3, p_U] [.int x3, .ref 9, .long t1] w) ∧
  (∀ (scr : pX) (w : pW) (y1 : Int64) (x3 : Int32) (s0 : Int32) (t2 : Int64), p_ev scr 6 34 [.ref 3, .long y1, p_U, .int x3, p_U] [.int s0, .ref 9, .long t2] w = p_bnd scr 6 34 37 [.ref 3, .long y1, p_U, .int x3, p_U] [.long t2] (p_ev none 26 0 [.ref 9, .int s0] [] w)) ∧
  (∀ (scr : pX) (w : pW) (y1 : Int64) (x3 : Int32) (t0 : Int64) (t1 : Int64), p_ev scr 6 37 [.ref 3, .long y1, p_U, .int x3, p_U] [.long t0, .long t1] w = p_ev scr 6 40 [.ref 3, .long y1, p_U, .int x3, p_U] [.long (p_max t1 t0)] w) ∧
  (∀ (scr : pX) (w : pW) (y1 : Int64) (x3 : Int32) (t0 : Int64), p_ev scr 6 40 [.ref 3, .long y1, p_U, .int x3, p_U] [.long t0] w = p_ev scr 6 41 [.ref 3, .long t0, p_U, .int x3, p_U] [] w) ∧
  (∀ (scr : pX) (w : pW) (y1 : Int64) (x3 : Int32), p_ev scr 6 41 [.ref 3, .long y1, p_U, .int x3, p_U] [] w = p_ev scr 6 44 [.ref 3, .long y1, p_U, .int (x3 + (nI 1)), p_U] [] w) ∧
  (∀ (scr : pX) (w : pW) (y1 : Int64) (x3 : Int32), p_ev scr 6 44 [.ref 3, .long y1, p_U, .int x3, p_U] [] w = p_ev scr 6 4 [.ref 3, .long y1, p_U, .int x3, p_U] [] w) ∧
  (∀ (scr : pX) (w : pW) (y1 : Int64) (x3 : Int32), p_ev scr 6 47 [.ref 3, .long y1, p_U, .int x3, p_U] [] w = p_ev scr 6 48 [.ref 3, .long y1, p_U, .int x3, p_U] [.ref 3] w) ∧
  (∀ (scr : pX) (w : pW) (y1 : Int64) (x3 : Int32), p_ev scr 6 48 [.ref 3, .long y1, p_U, .int x3, p_U] [.ref 3] w = p_ev scr 6 51 [.ref 3, .long y1, p_U, .int x3, p_U] [.int (w.1 3 6)] w) ∧
  (∀ (scr : pX) (w : pW) (y1 : Int64) (x3 : Int32) (s0 : Int32), p_ev scr 6 51 [.ref 3, .long y1, p_U, .int x3, p_U] [.int s0] w = p_ev scr 6 52 [.ref 3, .long y1, p_U, .int x3, p_U] [.int (nI 1), .int s0] w) ∧
  (∀ (scr : pX) (w : pW) (y1 : Int64) (x3 : Int32) (s0 : Int32) (s1 : Int32), p_ev scr 6 52 [.ref 3, .long y1, p_U, .int x3, p_U] [.int s0, .int s1] w = p_ev scr 6 53 [.ref 3, .long y1, p_U, .int x3, p_U] [.int (s1 - s0)] w) ∧
  (∀ (scr : pX) (w : pW) (y1 : Int64) (x3 : Int32) (s0 : Int32), p_ev scr 6 53 [.ref 3, .long y1, p_U, .int x3, p_U] [.int s0] w = p_ev scr 6 54 [.ref 3, .long y1, p_U, .int s0, p_U] [] w) ∧
  (∀ (scr : pX) (w : pW) (y1 : Int64) (x3 : Int32) (z4 : Value) (s0 : Int32), p_ev scr 6 55 [.ref 3, .long y1, p_U, .int x3, z4] [.int s0] w = p_ev scr 6 56 [.ref 3, .long y1, p_U, .int x3, z4] [.ref 3, .int s0] w) ∧
  (∀ (scr : pX) (w : pW) (y1 : Int64) (x3 : Int32) (z4 : Value) (s1 : Int32), p_ev scr 6 56 [.ref 3, .long y1, p_U, .int x3, z4] [.ref 3, .int s1] w = p_ev scr 6 59 [.ref 3, .long y1, p_U, .int x3, z4] [.int (w.1 3 7), .int s1] w) ∧
  (∀ (scr : pX) (w : pW) (y1 : Int64) (x3 : Int32) (z4 : Value) (s0 : Int32) (s1 : Int32), p_ev scr 6 59 [.ref 3, .long y1, p_U, .int x3, z4] [.int s0, .int s1] w = if s1 < s0 then p_ev scr 6 104 [.ref 3, .long y1, p_U, .int x3, z4] [] w else p_ev scr 6 62 [.ref 3, .long y1, p_U, .int x3, z4] [] w) ∧
  (∀ (scr : pX) (w : pW) (y1 : Int64) (x3 : Int32) (z4 : Value), p_ev scr 6 62 [.ref 3, .long y1, p_U, .int x3, z4] [] w = p_ev scr 6 63 [.ref 3, .long y1, p_U, .int x3, z4] [.ref 3] w) ∧
  (∀ (scr : pX) (w : pW) (y1 : Int64) (x3 : Int32) (z4 : Value), p_ev scr 6 63 [.ref 3, .long y1, p_U, .int x3, z4] [.ref 3] w = p_ev scr 6 64 [.ref 3, .long y1, p_U, .int x3, z4] [.int x3, .ref 3] w) ∧
  (∀ (scr : pX) (w : pW) (y1 : Int64) (x3 : Int32) (z4 : Value) (s0 : Int32), p_ev scr 6 64 [.ref 3, .long y1, p_U, .int x3, z4] [.int s0, .ref 3] w = p_bnd scr 6 64 67 [.ref 3, .long y1, p_U, .int x3, z4] [] (p_ev none 11 0 [.ref 3, .int s0] [] w)) ∧
  (∀ (scr : pX) (w : pW) (y1 : Int64) (x3 : Int32) (z4 : Value) (s0 : Int32), p_ev scr 6 67 [.ref 3, .long y1, p_U, .int x3, z4] [.int s0] w = p_ev scr 6 69 [.ref 3, .long y1, p_U, .int x3, .int s0] [] w) ∧
  (∀ (scr : pX) (w : pW) (y1 : Int64) (x3 : Int32) (x4 : Int32), p_ev scr 6 69 [.ref 3, .long y1, p_U, .int x3, .int x4] [] w = p_ev scr 6 70 [.ref 3, .long y1, p_U, .int x3, .int x4] [.ref 3] w) ∧
  (∀ (scr : pX) (w : pW) (y1 : Int64) (x3 : Int32) (x4 : Int32), p_ev scr 6 70 [.ref 3, .long y1, p_U, .int x3, .int x4] [.ref 3] w = p_ev scr 6 73 [.ref 3, .long y1, p_U, .int x3, .int x4] [.ref 10] w) ∧
  (∀ (scr : pX) (w : pW) (y1 : Int64) (x3 : Int32) (x4 : Int32), p_ev scr 6 73 [.ref 3, .long y1, p_U, .int x3, .int x4] [.ref 10] w = p_ev scr 6 75 [.ref 3, .long y1, p_U, .int x3, .int x4] [.int x4, .ref 10] w) ∧
  (∀ (scr : pX) (w : pW) (y1 : Int64) (x3 : Int32) (x4 : Int32) (s0 : Int32), p_ev scr 6 75 [.ref 3, .long y1, p_U, .int x3, .int x4] [.int s0, .ref 10] w = p_ev scr 6 76 [.ref 3, .long y1, p_U, .int x3, .int x4] [.ref 3, .int s0, .ref 10] w) ∧
  (∀ (scr : pX) (w : pW) (y1 : Int64) (x3 : Int32) (x4 : Int32) (s1 : Int32), p_ev scr 6 76 [.ref 3, .long y1, p_U, .int x3, .int x4] [.ref 3, .int s1, .ref 10] w = p_ev scr 6 79 [.ref 3, .long y1, p_U, .int x3, .int x4] [.ref 10, .int s1, .ref 10] w) ∧
  (∀ (scr : pX) (w : pW) (y1 : Int64) (x3 : Int32) (x4 : Int32) (s1 : Int32), p_ev scr 6 79 [.ref 3, .long y1, p_U, .int x3, .int x4] [.ref 10, .int s1, .ref 10] w = p_ev scr 6 81 [.ref 3, .long y1, p_U, .int x3, .int x4] [.int x4, .ref 10, .int s1, .ref 10] w) ∧
  (∀ (scr : pX) (w : pW) (y1 : Int64) (x3 : Int32) (x4 : Int32) (s0 : Int32) (s2 : Int32), p_ev scr 6 81 [.ref 3, .long y1, p_U, .int x3, .int x4] [.int s0, .ref 10, .int s2, .ref 10] w = p_bnd scr 6 81 84 [.ref 3, .long y1, p_U, .int x3, .int x4] [.int s2, .ref 10] (p_ev none 24 0 [.ref 10, .int s0] [] w)) ∧
  (∀ (scr : pX) (w : pW) (y1 : Int64) (x3 : Int32) (x4 : Int32) (t0 : Int64) (s1 : Int32), p_ev scr 6 84 [.ref 3, .long y1, p_U, .int x3, .int x4] [.long t0, .int s1, .ref 10] w = p_ev scr 6 85 [.ref 3, .long y1, p_U, .int x3, .int x4] [.ref 3, .long t0, .int s1, .ref 10] w) ∧
  (∀ (scr : pX) (w : pW) (y1 : Int64) (x3 : Int32) (x4 : Int32) (t1 : Int64) (s2 : Int32), p_ev scr 6 85 [.ref 3, .long y1, p_U, .int x3, .int x4] [.ref 3, .long t1, .int s2, .ref 10] w = p_ev scr 6 88 [.ref 3, .long y1, p_U, .int x3, .int x4] [.ref 10, .long t1, .int s2, .ref 10] w) ∧
  (∀ (scr : pX) (w : pW) (y1 : Int64) (x3 : Int32) (x4 : Int32) (t1 : Int64) (s2 : Int32), p_ev scr 6 88 [.ref 3, .long y1, p_U, .int x3, .int x4] [.ref 10, .long t1, .int s2, .ref 10] w = p_ev scr 6 89 [.ref 3, .long y1, p_U, .int x3, .int x4] [.int x3, .ref 10, .long t1, .int s2, .ref 10] w) ∧
  (∀ (scr : pX) (w : pW) (y1 : Int64) (x3 : Int32) (x4 : Int32) (s0 : Int32) (t2 : Int64) (s3 : Int32), p_ev scr 6 89 [.ref 3, .long y1, p_U, .int x3, .int x4] [.int s0, .ref 10, .long t2, .int s3, .ref 10] w = p_bnd scr 6 89 92 [.ref 3, .long y1, p_U, .int x3, .int x4] [.long t2, .int s3, .ref 10] (p_ev none 24 0 [.ref 10, .int s0] [] w)) ∧
  (∀ (scr : pX) (w : pW) (y1 : Int64) (x3 : Int32) (x4 : Int32) (t0 : Int64) (t1 : Int64) (s2 : Int32), p_ev scr 6 92 [.ref 3, .long y1, p_U, .int x3, .int x4] [.long t0, .long t1, .int s2, .ref 10] w = p_ev scr 6 95 [.ref 3, .long y1, p_U, .int x3, .int x4] [.long (p_max t1 t0), .int s2, .ref 10] w) ∧
  (∀ (scr : pX) (w : pW) (y1 : Int64) (x3 : Int32) (x4 : Int32) (t0 : Int64) (s1 : Int32), p_ev scr 6 95 [.ref 3, .long y1, p_U, .int x3, .int x4] [.long t0, .int s1, .ref 10] w = p_bnd scr 6 95 98 [.ref 3, .long y1, p_U, .int x3, .int x4] [] (p_ev none 25 0 [.ref 10, .int s1, .long t0, p_U] [] w)) ∧
  (∀ (scr : pX) (w : pW) (y1 : Int64) (x3 : Int32) (x4 : Int32), p_ev scr 6 98 [.ref 3, .long y1, p_U, .int x3, .int x4] [] w = p_ev scr 6 101 [.ref 3, .long y1, p_U, .int (x3 + (-1 : Int32)), .int x4] [] w) ∧
  (∀ (scr : pX) (w : pW) (y1 : Int64) (x3 : Int32) (x4 : Int32), p_ev scr 6 101 [.ref 3, .long y1, p_U, .int x3, .int x4] [] w = p_ev scr 6 54 [.ref 3, .long y1, p_U, .int x3, .int x4] [] w) ∧
  (∀ (scr : pX) (w : pW) (y1 : Int64) (x3 : Int32) (z4 : Value), p_ev scr 6 104 [.ref 3, .long y1, p_U, .int x3, z4] [] w = p_ev scr 6 105 [.ref 3, .long y1, p_U, .int x3, z4] [.long y1] w) ∧
  (∀ (scr : pX) (w : pW) (y1 : Int64) (x3 : Int32) (z4 : Value) (t0 : Int64), p_ev scr 6 105 [.ref 3, .long y1, p_U, .int x3, z4] [.long t0] w = some (.inl (some (.long t0)), w, 0)) :=
  ⟨fun _ _ => p_r (by decide +kernel : p_at 6 0 = some (.lconst 0)) rfl,
  fun _ _ _ => p_r (by decide +kernel : p_at 6 1 = some (.lstore_n 1)) rfl,
  fun _ _ _ => p_r (by decide +kernel : p_at 6 2 = some (.iconst 0)) rfl,
  fun _ _ _ _ => p_r (by decide +kernel : p_at 6 3 = some (.istore_n 3)) rfl,
  fun _ _ _ _ _ => p_r (by decide +kernel : p_at 6 5 = some (.aload_n 0)) rfl,
  fun _ _ _ _ _ => p_rgf (f := none) (by decide +kernel : p_at 6 6 = some (.getfield 39)) (by decide +kernel : p_fld (p_own 6) 39 = some (0, 6)) (rfl : p_ob 3 = some (.inr (0, [some 9, some 10, some 20, some 21, some 22, none, none, none]))) rfl,
  fun _ _ _ _ _ _ => p_rb2 (c := fun x y => decide (y ≤ x)) (off := 38) (by decide +kernel : p_at 6 9 = some (.if_icmp .ge 38)) (by decide +kernel) rfl rfl rfl,
  fun _ _ _ _ => p_r (by decide +kernel : p_at 6 12 = some (.aload_n 0)) rfl,
  fun _ _ _ _ => p_rgf (f := some 10) (by decide +kernel : p_at 6 13 = some (.getfield 18)) (by decide +kernel : p_fld (p_own 6) 18 = some (0, 1)) (rfl : p_ob 3 = some (.inr (0, [some 9, some 10, some 20, some 21, some 22, none, none, none]))) rfl,
  fun _ _ _ _ => p_r (by decide +kernel : p_at 6 16 = some (.iload_n 3)) rfl,
  fun _ _ _ _ _ => p_r (by decide +kernel : p_at 6 17 = some (.aload_n 0)) rfl,
  fun _ _ _ _ _ => p_rgf (f := some 9) (by decide +kernel : p_at 6 18 = some (.getfield 14)) (by decide +kernel : p_fld (p_own 6) 14 = some (0, 0)) (rfl : p_ob 3 = some (.inr (0, [some 9, some 10, some 20, some 21, some 22, none, none, none]))) rfl,
  fun _ _ _ _ _ => p_r (by decide +kernel : p_at 6 21 = some (.iload_n 3)) rfl,
  fun _ _ _ _ _ _ => p_rcv (nl := 2) (by decide +kernel : p_at 6 22 = some (.invokevirtual 71)) (by decide +kernel : p_inv (p_own 6) 71 = some (1, 26, 2)) (by decide +kernel) (rfl : p_ob 9 = some (.inr (2, [some 16]))) rfl rfl (Nat.le_of_ble_eq_true rfl) (Nat.le_of_ble_eq_true rfl) (Nat.le_of_ble_eq_true rfl) rfl,
  fun _ _ _ _ _ _ => p_rcv (nl := 4) (by decide +kernel : p_at 6 25 = some (.invokevirtual 67)) (by decide +kernel : p_inv (p_own 6) 67 = some (1, 25, 3)) (by decide +kernel) (rfl : p_ob 10 = some (.inr (2, [some 17]))) rfl rfl (Nat.le_of_ble_eq_true rfl) (Nat.le_of_ble_eq_true rfl) (Nat.le_of_ble_eq_true rfl) rfl,
  fun _ _ _ _ => p_r (by decide +kernel : p_at 6 28 = some (.lload_n 1)) rfl,
  fun _ _ _ _ _ => p_r (by decide +kernel : p_at 6 29 = some (.aload_n 0)) rfl,
  fun _ _ _ _ _ => p_rgf (f := some 9) (by decide +kernel : p_at 6 30 = some (.getfield 14)) (by decide +kernel : p_fld (p_own 6) 14 = some (0, 0)) (rfl : p_ob 3 = some (.inr (0, [some 9, some 10, some 20, some 21, some 22, none, none, none]))) rfl,
  fun _ _ _ _ _ => p_r (by decide +kernel : p_at 6 33 = some (.iload_n 3)) rfl,
  fun _ _ _ _ _ _ => p_rcv (nl := 2) (by decide +kernel : p_at 6 34 = some (.invokevirtual 71)) (by decide +kernel : p_inv (p_own 6) 71 = some (1, 26, 2)) (by decide +kernel) (rfl : p_ob 9 = some (.inr (2, [some 16]))) rfl rfl (Nat.le_of_ble_eq_true rfl) (Nat.le_of_ble_eq_true rfl) (Nat.le_of_ble_eq_true rfl) rfl,
  fun _ _ _ _ _ _ => p_rmax (n := 0) (by decide +kernel : p_at 6 37 = some (.invokestatic 78)) (by decide +kernel) (Nat.le_of_ble_eq_true rfl) (by decide +kernel),
  fun _ _ _ _ _ => p_r (by decide +kernel : p_at 6 40 = some (.lstore_n 1)) rfl,
  fun _ _ _ _ => p_r (by decide +kernel : p_at 6 41 = some (.iinc 3 1)) rfl,
  fun _ _ _ _ => p_rgo (by decide +kernel : p_at 6 44 = some (.goto (-40))) (by decide +kernel),
  fun _ _ _ _ => p_r (by decide +kernel : p_at 6 47 = some (.aload_n 0)) rfl,
  fun _ _ _ _ => p_rgf (f := none) (by decide +kernel : p_at 6 48 = some (.getfield 39)) (by decide +kernel : p_fld (p_own 6) 39 = some (0, 6)) (rfl : p_ob 3 = some (.inr (0, [some 9, some 10, some 20, some 21, some 22, none, none, none]))) rfl,
  fun _ _ _ _ _ => p_r (by decide +kernel : p_at 6 51 = some (.iconst 1)) rfl,
  fun _ _ _ _ _ _ => p_r (by decide +kernel : p_at 6 52 = some (.isub)) rfl,
  fun _ _ _ _ _ => p_r (by decide +kernel : p_at 6 53 = some (.istore_n 3)) rfl,
  fun _ _ _ _ _ _ => p_r (by decide +kernel : p_at 6 55 = some (.aload_n 0)) rfl,
  fun _ _ _ _ _ _ => p_rgf (f := none) (by decide +kernel : p_at 6 56 = some (.getfield 42)) (by decide +kernel : p_fld (p_own 6) 42 = some (0, 7)) (rfl : p_ob 3 = some (.inr (0, [some 9, some 10, some 20, some 21, some 22, none, none, none]))) rfl,
  fun _ _ _ _ _ _ _ => p_rb2 (c := fun x y => decide (x < y)) (off := 45) (by decide +kernel : p_at 6 59 = some (.if_icmp .lt 45)) (by decide +kernel) rfl rfl rfl,
  fun _ _ _ _ _ => p_r (by decide +kernel : p_at 6 62 = some (.aload_n 0)) rfl,
  fun _ _ _ _ _ => p_r (by decide +kernel : p_at 6 63 = some (.iload_n 3)) rfl,
  fun _ _ _ _ _ _ => p_rcv (nl := 2) (by decide +kernel : p_at 6 64 = some (.invokevirtual 84)) (by decide +kernel : p_inv (p_own 6) 84 = some (1, 11, 2)) (by decide +kernel) (rfl : p_ob 3 = some (.inr (0, [some 9, some 10, some 20, some 21, some 22, none, none, none]))) rfl rfl (Nat.le_of_ble_eq_true rfl) (Nat.le_of_ble_eq_true rfl) (Nat.le_of_ble_eq_true rfl) rfl,
  fun _ _ _ _ _ _ => p_r (by decide +kernel : p_at 6 67 = some (.istore 4)) rfl,
  fun _ _ _ _ _ => p_r (by decide +kernel : p_at 6 69 = some (.aload_n 0)) rfl,
  fun _ _ _ _ _ => p_rgf (f := some 10) (by decide +kernel : p_at 6 70 = some (.getfield 18)) (by decide +kernel : p_fld (p_own 6) 18 = some (0, 1)) (rfl : p_ob 3 = some (.inr (0, [some 9, some 10, some 20, some 21, some 22, none, none, none]))) rfl,
  fun _ _ _ _ _ => p_r (by decide +kernel : p_at 6 73 = some (.iload 4)) rfl,
  fun _ _ _ _ _ _ => p_r (by decide +kernel : p_at 6 75 = some (.aload_n 0)) rfl,
  fun _ _ _ _ _ _ => p_rgf (f := some 10) (by decide +kernel : p_at 6 76 = some (.getfield 18)) (by decide +kernel : p_fld (p_own 6) 18 = some (0, 1)) (rfl : p_ob 3 = some (.inr (0, [some 9, some 10, some 20, some 21, some 22, none, none, none]))) rfl,
  fun _ _ _ _ _ _ => p_r (by decide +kernel : p_at 6 79 = some (.iload 4)) rfl,
  fun _ _ _ _ _ _ _ => p_rcv (nl := 2) (by decide +kernel : p_at 6 81 = some (.invokevirtual 75)) (by decide +kernel : p_inv (p_own 6) 75 = some (1, 24, 2)) (by decide +kernel) (rfl : p_ob 10 = some (.inr (2, [some 17]))) rfl rfl (Nat.le_of_ble_eq_true rfl) (Nat.le_of_ble_eq_true rfl) (Nat.le_of_ble_eq_true rfl) rfl,
  fun _ _ _ _ _ _ _ => p_r (by decide +kernel : p_at 6 84 = some (.aload_n 0)) rfl,
  fun _ _ _ _ _ _ _ => p_rgf (f := some 10) (by decide +kernel : p_at 6 85 = some (.getfield 18)) (by decide +kernel : p_fld (p_own 6) 18 = some (0, 1)) (rfl : p_ob 3 = some (.inr (0, [some 9, some 10, some 20, some 21, some 22, none, none, none]))) rfl,
  fun _ _ _ _ _ _ _ => p_r (by decide +kernel : p_at 6 88 = some (.iload_n 3)) rfl,
  fun _ _ _ _ _ _ _ _ => p_rcv (nl := 2) (by decide +kernel : p_at 6 89 = some (.invokevirtual 75)) (by decide +kernel : p_inv (p_own 6) 75 = some (1, 24, 2)) (by decide +kernel) (rfl : p_ob 10 = some (.inr (2, [some 17]))) rfl rfl (Nat.le_of_ble_eq_true rfl) (Nat.le_of_ble_eq_true rfl) (Nat.le_of_ble_eq_true rfl) rfl,
  fun _ _ _ _ _ _ _ _ => p_rmax (n := 0) (by decide +kernel : p_at 6 92 = some (.invokestatic 78)) (by decide +kernel) (Nat.le_of_ble_eq_true rfl) (by decide +kernel),
  fun _ _ _ _ _ _ _ => p_rcv (nl := 4) (by decide +kernel : p_at 6 95 = some (.invokevirtual 67)) (by decide +kernel : p_inv (p_own 6) 67 = some (1, 25, 3)) (by decide +kernel) (rfl : p_ob 10 = some (.inr (2, [some 17]))) rfl rfl (Nat.le_of_ble_eq_true rfl) (Nat.le_of_ble_eq_true rfl) (Nat.le_of_ble_eq_true rfl) rfl,
  fun _ _ _ _ _ => p_r (by decide +kernel : p_at 6 98 = some (.iinc 3 (-1))) rfl,
  fun _ _ _ _ _ => p_rgo (by decide +kernel : p_at 6 101 = some (.goto (-47))) (by decide +kernel),
  fun _ _ _ _ _ => p_r (by decide +kernel : p_at 6 104 = some (.lload_n 1)) rfl,
  fun _ _ _ _ _ _ => p_rlret (by decide +kernel : p_at 6 105 = some (.lreturn)) (by decide +kernel)⟩
theorem H6_4 :
  (∀ (scr : pX) (w : pW) (y1 : Int64) (x3 : Int32), p_ev scr 6 4 [.ref 3, .long y1, p_U, .int x3, p_U] [] w = p_ev scr 6 5 [.ref 3, .long y1, p_U, .int x3, p_U] [.int x3] w) :=
  fun _ _ _ _ => p_r (by decide +kernel : p_at 6 4 = some (.iload_n 3)) rfl
theorem H6_54 :
  (∀ (scr : pX) (w : pW) (y1 : Int64) (x3 : Int32) (z4 : Value), p_ev scr 6 54 [.ref 3, .long y1, p_U, .int x3, z4] [] w = p_ev scr 6 55 [.ref 3, .long y1, p_U, .int x3, z4] [.int x3] w) :=
  fun _ _ _ _ _ => p_r (by decide +kernel : p_at 6 54 = some (.iload_n 3)) rfl
-- 7: writeFirstPass
theorem M7 :
  (∀ (scr : pX) (w : pW) (x1 : Int32), p_ev scr 7 0 [.ref 3, .int x1, p_U, p_U, p_U] [] w = p_ev scr 7 1 [.ref 3, .int x1, p_U, p_U, p_U] [.int (nI 0)] w) ∧
  (∀ (scr : pX) (w : pW) (x1 : Int32) (s0 : Int32), p_ev scr 7 1 [.ref 3, .int x1, p_U, p_U, p_U] [.int s0] w = p_ev scr 7 2 [.ref 3, .int x1, .int s0, p_U, p_U] [] w) ∧
  (∀ (scr : pX) (w : pW) (x1 : Int32) (x2 : Int32) (z3 : Value) (s0 : Int32), p_ev scr 7 3 [.ref 3, .int x1, .int x2, z3, p_U] [.int s0] w = p_ev scr 7 4 [.ref 3, .int x1, .int x2, z3, p_U] [.ref 3, .int s0] w) ∧
  (∀ (scr : pX) (w : pW) (x1 : Int32) (x2 : Int32) (z3 : Value) (s1 : Int32), p_ev scr 7 4 [.ref 3, .int x1, .int x2, z3, p_U] [.ref 3, .int s1] w = p_ev scr 7 7 [.ref 3, .int x1, .int x2, z3, p_U] [.int (w.1 3 6), .int s1] w) ∧
  (∀ (scr : pX) (w : pW) (x1 : Int32) (x2 : Int32) (z3 : Value) (s0 : Int32) (s1 : Int32), p_ev scr 7 7 [.ref 3, .int x1, .int x2, z3, p_U] [.int s0, .int s1] w = if s0 ≤ s1 then p_ev scr 7 117 [.ref 3, .int x1, .int x2, z3, p_U] [] w else p_ev scr 7 10 [.ref 3, .int x1, .int x2, z3, p_U] [] w) ∧
  (∀ (scr : pX) (w : pW) (x1 : Int32) (x2 : Int32) (z3 : Value), p_ev scr 7 10 [.ref 3, .int x1, .int x2, z3, p_U] [] w = p_ev scr 7 11 [.ref 3, .int x1, .int x2, z3, p_U] [.ref 3] w) ∧
  (∀ (scr : pX) (w : pW) (x1 : Int32) (x2 : Int32) (z3 : Value), p_ev scr 7 11 [.ref 3, .int x1, .int x2, z3, p_U] [.ref 3] w = p_ev scr 7 14 [.ref 3, .int x1, .int x2, z3, p_U] [.ref 9] w) ∧
  (∀ (scr : pX) (w : pW) (x1 : Int32) (x2 : Int32) (z3 : Value), p_ev scr 7 14 [.ref 3, .int x1, .int x2, z3, p_U] [.ref 9] w = p_ev scr 7 15 [.ref 3, .int x1, .int x2, z3, p_U] [.int x2, .ref 9] w) ∧
  (∀ (scr : pX) (w : pW) (x1 : Int32) (x2 : Int32) (z3 : Value) (s0 : Int32), p_ev scr 7 15 [.ref 3, .int x1, .int x2, z3, p_U] [.int s0, .ref 9] w = p_bnd scr 7 15 18 [.ref 3, .int x1, .int x2, z3, p_U] [] (p_ev none 26 0 [.ref 9, .int s0] [] w)) ∧
  (∀ (scr : pX) (w : pW) (x1 : Int32) (x2 : Int32) (z3 : Value) (t0 : Int64), p_ev scr 7 18 [.ref 3, .int x1, .int x2, z3, p_U] [.long t0] w = p_ev scr 7 19 [.ref 3, .int x1, .int x2, z3, p_U] [.int x1, .long t0] w) ∧
  (∀ (scr : pX) (w : pW) (x1 : Int32) (x2 : Int32) (z3 : Value) (s0 : Int32) (t1 : Int64), p_ev scr 7 19 [.ref 3, .int x1, .int x2, z3, p_U] [.int s0, .long t1] w = p_ev scr 7 20 [.ref 3, .int x1, .int x2, z3, p_U] [.long (t1 >>> (s0.toInt64 &&& 63))] w) ∧
  (∀ (scr : pX) (w : pW) (x1 : Int32) (x2 : Int32) (z3 : Value) (t0 : Int64), p_ev scr 7 20 [.ref 3, .int x1, .int x2, z3, p_U] [.long t0] w = p_ev scr 7 21 [.ref 3, .int x1, .int x2, .long t0, p_U] [] w) ∧
  (∀ (scr : pX) (w : pW) (x1 : Int32) (x2 : Int32) (y3 : Int64), p_ev scr 7 21 [.ref 3, .int x1, .int x2, .long y3, p_U] [] w = p_ev scr 7 22 [.ref 3, .int x1, .int x2, .long y3, p_U] [.long y3] w) ∧
  (∀ (scr : pX) (w : pW) (x1 : Int32) (x2 : Int32) (y3 : Int64) (t0 : Int64), p_ev scr 7 22 [.ref 3, .int x1, .int x2, .long y3, p_U] [.long t0] w = p_ev scr 7 23 [.ref 3, .int x1, .int x2, .long y3, p_U] [.long (lN 1), .long t0] w) ∧
  (∀ (scr : pX) (w : pW) (x1 : Int32) (x2 : Int32) (y3 : Int64) (t0 : Int64) (t1 : Int64), p_ev scr 7 23 [.ref 3, .int x1, .int x2, .long y3, p_U] [.long t0, .long t1] w = p_ev scr 7 24 [.ref 3, .int x1, .int x2, .long y3, p_U] [.int (lg_cmp t1 t0)] w) ∧
  (∀ (scr : pX) (w : pW) (x1 : Int32) (x2 : Int32) (y3 : Int64) (s0 : Int32), p_ev scr 7 24 [.ref 3, .int x1, .int x2, .long y3, p_U] [.int s0] w = if ¬ s0 = nI 0 then p_ev scr 7 59 [.ref 3, .int x1, .int x2, .long y3, p_U] [] w else p_ev scr 7 27 [.ref 3, .int x1, .int x2, .long y3, p_U] [] w) ∧
  (∀ (scr : pX) (w : pW) (x1 : Int32) (x2 : Int32) (y3 : Int64), p_ev scr 7 27 [.ref 3, .int x1, .int x2, .long y3, p_U] [] w = p_ev scr 7 28 [.ref 3, .int x1, .int x2, .long y3, p_U] [.ref 3] w) ∧
  (∀ (scr : pX) (w : pW) (x1 : Int32) (x2 : Int32) (y3 : Int64), p_ev scr 7 28 [.ref 3, .int x1, .int x2, .long y3, p_U] [.ref 3] w = p_ev scr 7 29 [.ref 3, .int x1, .int x2, .long y3, p_U] [.int (nI 1), .ref 3] w) ∧
  (∀ (scr : pX) (w : pW) (x1 : Int32) (x2 : Int32) (y3 : Int64) (s0 : Int32), p_ev scr 7 29 [.ref 3, .int x1, .int x2, .long y3, p_U] [.int s0, .ref 3] w = p_bnd scr 7 29 32 [.ref 3, .int x1, .int x2, .long y3, p_U] [] (p_ev none 12 0 [.ref 3, .int s0] [] w)) ∧
  (∀ (scr : pX) (w : pW) (x1 : Int32) (x2 : Int32) (y3 : Int64), p_ev scr 7 32 [.ref 3, .int x1, .int x2, .long y3, p_U] [] w = p_ev scr 7 33 [.ref 3, .int x1, .int x2, .long y3, p_U] [.ref 3] w) ∧
  (∀ (scr : pX) (w : pW) (x1 : Int32) (x2 : Int32) (y3 : Int64), p_ev scr 7 33 [.ref 3, .int x1, .int x2, .long y3, p_U] [.ref 3] w = p_ev scr 7 34 [.ref 3, .int x1, .int x2, .long y3, p_U] [.ref 3, .ref 3] w) ∧
  (∀ (scr : pX) (w : pW) (x1 : Int32) (x2 : Int32) (y3 : Int64), p_ev scr 7 34 [.ref 3, .int x1, .int x2, .long y3, p_U] [.ref 3, .ref 3] w = p_ev scr 7 37 [.ref 3, .int x1, .int x2, .long y3, p_U] [.ref 9, .ref 3] w) ∧
  (∀ (scr : pX) (w : pW) (x1 : Int32) (x2 : Int32) (y3 : Int64), p_ev scr 7 37 [.ref 3, .int x1, .int x2, .long y3, p_U] [.ref 9, .ref 3] w = p_ev scr 7 38 [.ref 3, .int x1, .int x2, .long y3, p_U] [.int x2, .ref 9, .ref 3] w) ∧
  (∀ (scr : pX) (w : pW) (x1 : Int32) (x2 : Int32) (y3 : Int64) (s0 : Int32), p_ev scr 7 38 [.ref 3, .int x1, .int x2, .long y3, p_U] [.int s0, .ref 9, .ref 3] w = p_bnd scr 7 38 41 [.ref 3, .int x1, .int x2, .long y3, p_U] [.ref 3] (p_ev none 24 0 [.ref 9, .int s0] [] w)) ∧
  (∀ (scr : pX) (w : pW) (x1 : Int32) (x2 : Int32) (y3 : Int64) (t0 : Int64), p_ev scr 7 41 [.ref 3, .int x1, .int x2, .long y3, p_U] [.long t0, .ref 3] w = p_ev scr 7 42 [.ref 3, .int x1, .int x2, .long y3, p_U] [.long (lN 0), .long t0, .ref 3] w) ∧
  (∀ (scr : pX) (w : pW) (x1 : Int32) (x2 : Int32) (y3 : Int64) (t0 : Int64) (t1 : Int64), p_ev scr 7 42 [.ref 3, .int x1, .int x2, .long y3, p_U] [.long t0, .long t1, .ref 3] w = p_ev scr 7 43 [.ref 3, .int x1, .int x2, .long y3, p_U] [.int (lg_cmp t1 t0), .ref 3] w) ∧
  (∀ (scr : pX) (w : pW) (x1 : Int32) (x2 : Int32) (y3 : Int64) (s0 : Int32), p_ev scr 7 43 [.ref 3, .int x1, .int x2, .long y3, p_U] [.int s0, .ref 3] w = if nI 0 ≤ s0 then p_ev scr 7 50 [.ref 3, .int x1, .int x2, .long y3, p_U] [.ref 3] w else p_ev scr 7 46 [.ref 3, .int x1, .int x2, .long y3, p_U] [.ref 3] w) ∧
  (∀ (scr : pX) (w : pW) (x1 : Int32) (x2 : Int32) (y3 : Int64), p_ev scr 7 46 [.ref 3, .int x1, .int x2, .long y3, p_U] [.ref 3] w = p_ev scr 7 47 [.ref 3, .int x1, .int x2, .long y3, p_U] [.int (nI 1), .ref 3] w) ∧
  (∀ (scr : pX) (w : pW) (x1 : Int32) (x2 : Int32) (y3 : Int64) (s0 : Int32), p_ev scr 7 47 [.ref 3, .int x1, .int x2, .long y3, p_U] [.int s0, .ref 3] w = p_ev scr 7 51 [.ref 3, .int x1, .int x2, .long y3, p_U] [.int s0, .ref 3] w) ∧
  (∀ (scr : pX) (w : pW) (x1 : Int32) (x2 : Int32) (y3 : Int64), p_ev scr 7 50 [.ref 3, .int x1, .int x2, .long y3, p_U] [.ref 3] w = p_ev scr 7 51 [.ref 3, .int x1, .int x2, .long y3, p_U] [.int (nI 0), .ref 3] w) ∧
  (∀ (scr : pX) (w : pW) (x1 : Int32) (x2 : Int32) (y3 : Int64) (s0 : Int32), p_ev scr 7 51 [.ref 3, .int x1, .int x2, .long y3, p_U] [.int s0, .ref 3] w = p_ev scr 7 52 [.ref 3, .int x1, .int x2, .long y3, p_U] [.int x2, .int s0, .ref 3] w) ∧
  (∀ (scr : pX) (w : pW) (x1 : Int32) (x2 : Int32) (y3 : Int64) (s0 : Int32) (s1 : Int32), p_ev scr 7 52 [.ref 3, .int x1, .int x2, .long y3, p_U] [.int s0, .int s1, .ref 3] w = p_ev scr 7 53 [.ref 3, .int x1, .int x2, .long y3, p_U] [.int x1, .int s0, .int s1, .ref 3] w) ∧
  (∀ (scr : pX) (w : pW) (x1 : Int32) (x2 : Int32) (y3 : Int64) (s0 : Int32) (s1 : Int32) (s2 : Int32), p_ev scr 7 53 [.ref 3, .int x1, .int x2, .long y3, p_U] [.int s0, .int s1, .int s2, .ref 3] w = p_bnd scr 7 53 56 [.ref 3, .int x1, .int x2, .long y3, p_U] [] (p_ev none 13 0 [.ref 3, .int s2, .int s1, .int s0] [] w)) ∧
  (∀ (scr : pX) (w : pW) (x1 : Int32) (x2 : Int32) (y3 : Int64), p_ev scr 7 56 [.ref 3, .int x1, .int x2, .long y3, p_U] [] w = p_ev scr 7 111 [.ref 3, .int x1, .int x2, .long y3, p_U] [] w) ∧
  (∀ (scr : pX) (w : pW) (x1 : Int32) (x2 : Int32) (y3 : Int64), p_ev scr 7 59 [.ref 3, .int x1, .int x2, .long y3, p_U] [] w = p_ev scr 7 60 [.ref 3, .int x1, .int x2, .long y3, p_U] [.long y3] w) ∧
  (∀ (scr : pX) (w : pW) (x1 : Int32) (x2 : Int32) (y3 : Int64) (t0 : Int64), p_ev scr 7 60 [.ref 3, .int x1, .int x2, .long y3, p_U] [.long t0] w = p_ev scr 7 61 [.ref 3, .int x1, .int x2, .long y3, p_U] [.long (lN 0), .long t0] w) ∧
  (∀ (scr : pX) (w : pW) (x1 : Int32) (x2 : Int32) (y3 : Int64) (t0 : Int64) (t1 : Int64), p_ev scr 7 61 [.ref 3, .int x1, .int x2, .long y3, p_U] [.long t0, .long t1] w = p_ev scr 7 62 [.ref 3, .int x1, .int x2, .long y3, p_U] [.int (lg_cmp t1 t0)] w) ∧
  (∀ (scr : pX) (w : pW) (x1 : Int32) (x2 : Int32) (y3 : Int64) (s0 : Int32), p_ev scr 7 62 [.ref 3, .int x1, .int x2, .long y3, p_U] [.int s0] w = if ¬ s0 = nI 0 then p_ev scr 7 111 [.ref 3, .int x1, .int x2, .long y3, p_U] [] w else p_ev scr 7 65 [.ref 3, .int x1, .int x2, .long y3, p_U] [] w) ∧
  (∀ (scr : pX) (w : pW) (x1 : Int32) (x2 : Int32) (y3 : Int64), p_ev scr 7 65 [.ref 3, .int x1, .int x2, .long y3, p_U] [] w = p_ev scr 7 66 [.ref 3, .int x1, .int x2, .long y3, p_U] [.ref 3] w) ∧
  (∀ (scr : pX) (w : pW) (x1 : Int32) (x2 : Int32) (y3 : Int64), p_ev scr 7 66 [.ref 3, .int x1, .int x2, .long y3, p_U] [.ref 3] w = p_ev scr 7 67 [.ref 3, .int x1, .int x2, .long y3, p_U] [.int x2, .ref 3] w) ∧
  (∀ (scr : pX) (w : pW) (x1 : Int32) (x2 : Int32) (y3 : Int64) (s0 : Int32), p_ev scr 7 67 [.ref 3, .int x1, .int x2, .long y3, p_U] [.int s0, .ref 3] w = p_ev scr 7 68 [.ref 3, .int x1, .int x2, .long y3, p_U] [.int x1, .int s0, .ref 3] w) ∧
  (∀ (scr : pX) (w : pW) (x1 : Int32) (x2 : Int32) (y3 : Int64) (s0 : Int32) (s1 : Int32), p_ev scr 7 68 [.ref 3, .int x1, .int x2, .long y3, p_U] [.int s0, .int s1, .ref 3] w = p_bnd scr 7 68 71 [.ref 3, .int x1, .int x2, .long y3, p_U] [] (p_ev none 9 0 [.ref 3, .int s1, .int s0] [] w)) ∧
  (∀ (scr : pX) (w : pW) (x1 : Int32) (x2 : Int32) (y3 : Int64) (s0 : Int32), p_ev scr 7 71 [.ref 3, .int x1, .int x2, .long y3, p_U] [.int s0] w = if ¬ s0 = nI 0 then p_ev scr 7 111 [.ref 3, .int x1, .int x2, .long y3, p_U] [] w else p_ev scr 7 74 [.ref 3, .int x1, .int x2, .long y3, p_U] [] w) ∧
  (∀ (scr : pX) (w : pW) (x1 : Int32) (x2 : Int32) (y3 : Int64), p_ev scr 7 74 [.ref 3, .int x1, .int x2, .long y3, p_U] [] w = p_ev scr 7 75 [.ref 3, .int x1, .int x2, .long y3, p_U] [.ref 3] w) ∧
  (∀ (scr : pX) (w : pW) (x1 : Int32) (x2 : Int32) (y3 : Int64), p_ev scr 7 75 [.ref 3, .int x1, .int x2, .long y3, p_U] [.ref 3] w = p_ev scr 7 76 [.ref 3, .int x1, .int x2, .long y3, p_U] [.int (nI 0), .ref 3] w) ∧
  (∀ (scr : pX) (w : pW) (x1 : Int32) (x2 : Int32) (y3 : Int64) (s0 : Int32), p_ev scr 7 76 [.ref 3, .int x1, .int x2, .long y3, p_U] [.int s0, .ref 3] w = p_bnd scr 7 76 79 [.ref 3, .int x1, .int x2, .long y3, p_U] [] (p_ev none 12 0 [.ref 3, .int s0] [] w)) ∧
  (∀ (scr : pX) (w : pW) (x1 : Int32) (x2 : Int32) (y3 : Int64), p_ev scr 7 79 [.ref 3, .int x1, .int x2, .long y3, p_U] [] w = p_ev scr 7 80 [.ref 3, .int x1, .int x2, .long y3, p_U] [.ref 3] w) ∧
  (∀ (scr : pX) (w : pW) (x1 : Int32) (x2 : Int32) (y3 : Int64), p_ev scr 7 80 [.ref 3, .int x1, .int x2, .long y3, p_U] [.ref 3] w = p_ev scr 7 81 [.ref 3, .int x1, .int x2, .long y3, p_U] [.int x2, .ref 3] w) ∧
  (∀ (scr : pX) (w : pW) (x1 : Int32) (x2 : Int32) (y3 : Int64) (s0 : Int32), p_ev scr 7 81 [.ref 3, .int x1, .int x2, .long y3, p_U] [.int s0, .ref 3] w = p_bnd scr 7 81 84 [.ref 3, .int x1, .int x2, .long y3, p_U] [] (p_ev none 10 0 [.ref 3, .int s0] [] w)) ∧
  (∀ (scr : pX) (w : pW) (x1 : Int32) (x2 : Int32) (y3 : Int64) (s0 : Int32), p_ev scr 7 84 [.ref 3, .int x1, .int x2, .long y3, p_U] [.int s0] w = if s0 = nI 0 then p_ev scr 7 111 [.ref 3, .int x1, .int x2, .long y3, p_U] [] w else p_ev scr 7 87 [.ref 3, .int x1, .int x2, .long y3, p_U] [] w) ∧
  (∀ (scr : pX) (w : pW) (x1 : Int32) (x2 : Int32) (y3 : Int64), p_ev scr 7 87 [.ref 3, .int x1, .int x2, .long y3, p_U] [] w = p_ev scr 7 88 [.ref 3, .int x1, .int x2, .long y3, p_U] [.ref 3] w) ∧
  (∀ (scr : pX) (w : pW) (x1 : Int32) (x2 : Int32) (y3 : Int64), p_ev scr 7 88 [.ref 3, .int x1, .int x2, .long y3, p_U] [.ref 3] w = p_ev scr 7 89 [.ref 3, .int x1, .int x2, .long y3, p_U] [.ref 3, .ref 3] w) ∧
  (∀ (scr : pX) (w : pW) (x1 : Int32) (x2 : Int32) (y3 : Int64), p_ev scr 7 89 [.ref 3, .int x1, .int x2, .long y3, p_U] [.ref 3, .ref 3] w = p_ev scr 7 92 [.ref 3, .int x1, .int x2, .long y3, p_U] [.ref 10, .ref 3] w) ∧
  (∀ (scr : pX) (w : pW) (x1 : Int32) (x2 : Int32) (y3 : Int64), p_ev scr 7 92 [.ref 3, .int x1, .int x2, .long y3, p_U] [.ref 10, .ref 3] w = p_ev scr 7 93 [.ref 3, .int x1, .int x2, .long y3, p_U] [.int x2, .ref 10, .ref 3] w) ∧
  (∀ (scr : pX) (w : pW) (x1 : Int32) (x2 : Int32) (y3 : Int64) (s0 : Int32), p_ev scr 7 93 [.ref 3, .int x1, .int x2, .long y3, p_U] [.int s0, .ref 10, .ref 3] w = p_bnd scr 7 93 96 [.ref 3, .int x1, .int x2, .long y3, p_U] [.ref 3] (p_ev none 24 0 [.ref 10, .int s0] [] w)) ∧
  (∀ (scr : pX) (w : pW) (x1 : Int32) (x2 : Int32) (y3 : Int64) (t0 : Int64), p_ev scr 7 96 [.ref 3, .int x1, .int x2, .long y3, p_U] [.long t0, .ref 3] w = p_ev scr 7 97 [.ref 3, .int x1, .int x2, .long y3, p_U] [.int x1, .long t0, .ref 3] w) ∧
  (∀ (scr : pX) (w : pW) (x1 : Int32) (x2 : Int32) (y3 : Int64) (s0 : Int32) (t1 : Int64), p_ev scr 7 97 [.ref 3, .int x1, .int x2, .long y3, p_U] [.int s0, .long t1, .ref 3] w = p_ev scr 7 98 [.ref 3, .int x1, .int x2, .long y3, p_U] [.long (t1 >>> (s0.toInt64 &&& 63)), .ref 3] w) ∧
  (∀ (scr : pX) (w : pW) (x1 : Int32) (x2 : Int32) (y3 : Int64) (t0 : Int64), p_ev scr 7 98 [.ref 3, .int x1, .int x2, .long y3, p_U] [.long t0, .ref 3] w = p_ev scr 7 99 [.ref 3, .int x1, .int x2, .long y3, p_U] [.long (lN 0), .long t0, .ref 3] w) ∧
  (∀ (scr : pX) (w : pW) (x1 : Int32) (x2 : Int32) (y3 : Int64) (t0 : Int64) (t1 : Int64), p_ev scr 7 99 [.ref 3, .int x1, .int x2, .long y3, p_U] [.long t0, .long t1, .ref 3] w = p_ev scr 7 100 [.ref 3, .int x1, .int x2, .long y3, p_U] [.int (lg_cmp t1 t0), .ref 3] w) ∧
  (∀ (scr : pX) (w : pW) (x1 : Int32) (x2 : Int32) (y3 : Int64) (s0 : Int32), p_ev scr 7 100 [.ref 3, .int x1, .int x2, .long y3, p_U] [.int s0, .ref 3] w = if ¬ s0 = nI 0 then p_ev scr 7 107 [.ref 3, .int x1, .int x2, .long y3, p_U] [.ref 3] w else p_ev scr 7 103 [.ref 3, .int x1, .int x2, .long y3, p_U] [.ref 3] w) ∧
  (∀ (scr : pX) (w : pW) (x1 : Int32) (x2 : Int32) (y3 : Int64), p_ev scr 7 103 [.ref 3, .int x1, .int x2, .long y3, p_U] [.ref 3] w = p_ev scr 7 104 [.ref 3, .int x1, .int x2, .long y3, p_U] [.int (nI 0), .ref 3] w) ∧
  (∀ (scr : pX) (w : pW) (x1 : Int32) (x2 : Int32) (y3 : Int64) (s0 : Int32), p_ev scr 7 104 [.ref 3, .int x1, .int x2, .long y3, p_U] [.int s0, .ref 3] w = p_ev scr 7 108 [.ref 3, .int x1, .int x2, .long y3, p_U] [.int s0, .ref 3] w) ∧
  (∀ (scr : pX) (w : pW) (x1 : Int32) (x2 : Int32) (y3 : Int64), p_ev scr 7 107 [.ref 3, .int x1, .int x2, .long y3, p_U] [.ref 3] w = p_ev scr 7 108 [.ref 3, .int x1, .int x2, .long y3, p_U] [.int (nI 1), .ref 3] w) ∧
  (∀ (scr : pX) (w : pW) (x1 : Int32) (x2 : Int32) (y3 : Int64) (s0 : Int32), p_ev scr 7 108 [.ref 3, .int x1, .int x2, .long y3, p_U] [.int s0, .ref 3] w = p_bnd scr 7 108 111 [.ref 3, .int x1, .int x2, .long y3, p_U] [] (p_ev none 12 0 [.ref 3, .int s0] [] w)) ∧
  (∀ (scr : pX) (w : pW) (x1 : Int32) (x2 : Int32) (y3 : Int64), p_ev scr 7 111 [.ref 3, .int x1, .int x2, .long y3, p_U] [] w = p_ev scr 7 114 [.ref 3, .int x1, .int (x2 + (nI 1)), .long y3, p_U] [] w) ∧
  (∀ (scr : pX) (w : pW) (x1 : Int32) (x2 : Int32) (y3 : Int64), p_ev scr 7 114 [.ref 3, .int x1, .int x2, .long y3, p_U] [] w = p_ev scr 7 2 [.ref 3, .int x1, .int x2, .long y3, p_U] [] w) ∧
  (∀ (scr : pX) (w : pW) (x1 : Int32) (x2 : Int32) (z3 : Value), p_ev scr 7 117 [.ref 3, .int x1, .int x2, z3, p_U] [] w = some (.inl none, w, 0)) :=
  ⟨fun _ _ _ => p_r (by decide +kernel : p_at 7 0 = some (.iconst 0)) rfl,
  fun _ _ _ _ => p_r (by decide +kernel : p_at 7 1 = some (.istore_n 2)) rfl,
  fun _ _ _ _ _ _ => p_r (by decide +kernel : p_at 7 3 = some (.aload_n 0)) rfl,
  fun _ _ _ _ _ _ => p_rgf (f := none) (by decide +kernel : p_at 7 4 = some (.getfield 39)) (by decide +kernel : p_fld (p_own 7) 39 = some (0, 6)) (rfl : p_ob 3 = some (.inr (0, [some 9, some 10, some 20, some 21, some 22, none, none, none]))) rfl,
  fun _ _ _ _ _ _ _ => p_rb2 (c := fun x y => decide (y ≤ x)) (off := 110) (by decide +kernel : p_at 7 7 = some (.if_icmp .ge 110)) (by decide +kernel) rfl rfl rfl,
  fun _ _ _ _ _ => p_r (by decide +kernel : p_at 7 10 = some (.aload_n 0)) rfl,
  fun _ _ _ _ _ => p_rgf (f := some 9) (by decide +kernel : p_at 7 11 = some (.getfield 14)) (by decide +kernel : p_fld (p_own 7) 14 = some (0, 0)) (rfl : p_ob 3 = some (.inr (0, [some 9, some 10, some 20, some 21, some 22, none, none, none]))) rfl,
  fun _ _ _ _ _ => p_r (by decide +kernel : p_at 7 14 = some (.iload_n 2)) rfl,
  fun _ _ _ _ _ _ => p_rcv (nl := 2) (by decide +kernel : p_at 7 15 = some (.invokevirtual 71)) (by decide +kernel : p_inv (p_own 7) 71 = some (1, 26, 2)) (by decide +kernel) (rfl : p_ob 9 = some (.inr (2, [some 16]))) rfl rfl (Nat.le_of_ble_eq_true rfl) (Nat.le_of_ble_eq_true rfl) (Nat.le_of_ble_eq_true rfl) rfl,
  fun _ _ _ _ _ _ => p_r (by decide +kernel : p_at 7 18 = some (.iload_n 1)) rfl,
  fun _ _ _ _ _ _ _ => p_r (by decide +kernel : p_at 7 19 = some (.lshr)) rfl,
  fun _ _ _ _ _ _ => p_r (by decide +kernel : p_at 7 20 = some (.lstore_n 3)) rfl,
  fun _ _ _ _ _ => p_r (by decide +kernel : p_at 7 21 = some (.lload_n 3)) rfl,
  fun _ _ _ _ _ _ => p_r (by decide +kernel : p_at 7 22 = some (.lconst 1)) rfl,
  fun _ _ _ _ _ _ _ => p_r (by decide +kernel : p_at 7 23 = some (.lcmp)) rfl,
  fun _ _ _ _ _ _ => p_rb1 (c := fun x => decide (¬ x = 0)) (off := 35) (by decide +kernel : p_at 7 24 = some (.ifCond .ne 35)) (by decide +kernel) rfl rfl rfl,
  fun _ _ _ _ _ => p_r (by decide +kernel : p_at 7 27 = some (.aload_n 0)) rfl,
  fun _ _ _ _ _ => p_r (by decide +kernel : p_at 7 28 = some (.iconst 1)) rfl,
  fun _ _ _ _ _ _ => p_rcv (nl := 2) (by decide +kernel : p_at 7 29 = some (.invokevirtual 53)) (by decide +kernel : p_inv (p_own 7) 53 = some (1, 12, 2)) (by decide +kernel) (rfl : p_ob 3 = some (.inr (0, [some 9, some 10, some 20, some 21, some 22, none, none, none]))) rfl rfl (Nat.le_of_ble_eq_true rfl) (Nat.le_of_ble_eq_true rfl) (Nat.le_of_ble_eq_true rfl) rfl,
  fun _ _ _ _ _ => p_r (by decide +kernel : p_at 7 32 = some (.aload_n 0)) rfl,
  fun _ _ _ _ _ => p_r (by decide +kernel : p_at 7 33 = some (.aload_n 0)) rfl,
  fun _ _ _ _ _ => p_rgf (f := some 9) (by decide +kernel : p_at 7 34 = some (.getfield 14)) (by decide +kernel : p_fld (p_own 7) 14 = some (0, 0)) (rfl : p_ob 3 = some (.inr (0, [some 9, some 10, some 20, some 21, some 22, none, none, none]))) rfl,
  fun _ _ _ _ _ => p_r (by decide +kernel : p_at 7 37 = some (.iload_n 2)) rfl,
  fun _ _ _ _ _ _ => p_rcv (nl := 2) (by decide +kernel : p_at 7 38 = some (.invokevirtual 75)) (by decide +kernel : p_inv (p_own 7) 75 = some (1, 24, 2)) (by decide +kernel) (rfl : p_ob 9 = some (.inr (2, [some 16]))) rfl rfl (Nat.le_of_ble_eq_true rfl) (Nat.le_of_ble_eq_true rfl) (Nat.le_of_ble_eq_true rfl) rfl,
  fun _ _ _ _ _ _ => p_r (by decide +kernel : p_at 7 41 = some (.lconst 0)) rfl,
  fun _ _ _ _ _ _ _ => p_r (by decide +kernel : p_at 7 42 = some (.lcmp)) rfl,
  fun _ _ _ _ _ _ => p_rb1 (c := fun x => decide (0 ≤ x)) (off := 7) (by decide +kernel : p_at 7 43 = some (.ifCond .ge 7)) (by decide +kernel) rfl rfl rfl,
  fun _ _ _ _ _ => p_r (by decide +kernel : p_at 7 46 = some (.iconst 1)) rfl,
  fun _ _ _ _ _ _ => p_rgo (by decide +kernel : p_at 7 47 = some (.goto 4)) (by decide +kernel),
  fun _ _ _ _ _ => p_r (by decide +kernel : p_at 7 50 = some (.iconst 0)) rfl,
  fun _ _ _ _ _ _ => p_r (by decide +kernel : p_at 7 51 = some (.iload_n 2)) rfl,
  fun _ _ _ _ _ _ _ => p_r (by decide +kernel : p_at 7 52 = some (.iload_n 1)) rfl,
  fun _ _ _ _ _ _ _ _ => p_rcv (nl := 4) (by decide +kernel : p_at 7 53 = some (.invokevirtual 88)) (by decide +kernel : p_inv (p_own 7) 88 = some (1, 13, 4)) (by decide +kernel) (rfl : p_ob 3 = some (.inr (0, [some 9, some 10, some 20, some 21, some 22, none, none, none]))) rfl rfl (Nat.le_of_ble_eq_true rfl) (Nat.le_of_ble_eq_true rfl) (Nat.le_of_ble_eq_true rfl) rfl,
  fun _ _ _ _ _ => p_rgo (by decide +kernel : p_at 7 56 = some (.goto 55)) (by decide +kernel),
  fun _ _ _ _ _ => p_r (by decide +kernel : p_at 7 59 = some (.lload_n 3)) rfl,
  fun _ _ _ _ _ _ => p_r (by decide +kernel : p_at 7 60 = some (.lconst 0)) rfl,
  fun _ _ _ _ _ _ _ => p_r (by decide +kernel : p_at 7 61 = some (.lcmp)) rfl,
  fun _ _ _ _ _ _ => p_rb1 (c := fun x => decide (¬ x = 0)) (off := 49) (by decide +kernel : p_at 7 62 = some (.ifCond .ne 49)) (by decide +kernel) rfl rfl rfl,
  fun _ _ _ _ _ => p_r (by decide +kernel : p_at 7 65 = some (.aload_n 0)) rfl,
  fun _ _ _ _ _ => p_r (by decide +kernel : p_at 7 66 = some (.iload_n 2)) rfl,
  fun _ _ _ _ _ _ => p_r (by decide +kernel : p_at 7 67 = some (.iload_n 1)) rfl,
  fun _ _ _ _ _ _ _ => p_rcv (nl := 3) (by decide +kernel : p_at 7 68 = some (.invokevirtual 92)) (by decide +kernel : p_inv (p_own 7) 92 = some (1, 9, 3)) (by decide +kernel) (rfl : p_ob 3 = some (.inr (0, [some 9, some 10, some 20, some 21, some 22, none, none, none]))) rfl rfl (Nat.le_of_ble_eq_true rfl) (Nat.le_of_ble_eq_true rfl) (Nat.le_of_ble_eq_true rfl) rfl,
  fun _ _ _ _ _ _ => p_rb1 (c := fun x => decide (¬ x = 0)) (off := 40) (by decide +kernel : p_at 7 71 = some (.ifCond .ne 40)) (by decide +kernel) rfl rfl rfl,
  fun _ _ _ _ _ => p_r (by decide +kernel : p_at 7 74 = some (.aload_n 0)) rfl,
  fun _ _ _ _ _ => p_r (by decide +kernel : p_at 7 75 = some (.iconst 0)) rfl,
  fun _ _ _ _ _ _ => p_rcv (nl := 2) (by decide +kernel : p_at 7 76 = some (.invokevirtual 53)) (by decide +kernel : p_inv (p_own 7) 53 = some (1, 12, 2)) (by decide +kernel) (rfl : p_ob 3 = some (.inr (0, [some 9, some 10, some 20, some 21, some 22, none, none, none]))) rfl rfl (Nat.le_of_ble_eq_true rfl) (Nat.le_of_ble_eq_true rfl) (Nat.le_of_ble_eq_true rfl) rfl,
  fun _ _ _ _ _ => p_r (by decide +kernel : p_at 7 79 = some (.aload_n 0)) rfl,
  fun _ _ _ _ _ => p_r (by decide +kernel : p_at 7 80 = some (.iload_n 2)) rfl,
  fun _ _ _ _ _ _ => p_rcv (nl := 2) (by decide +kernel : p_at 7 81 = some (.invokevirtual 96)) (by decide +kernel : p_inv (p_own 7) 96 = some (1, 10, 2)) (by decide +kernel) (rfl : p_ob 3 = some (.inr (0, [some 9, some 10, some 20, some 21, some 22, none, none, none]))) rfl rfl (Nat.le_of_ble_eq_true rfl) (Nat.le_of_ble_eq_true rfl) (Nat.le_of_ble_eq_true rfl) rfl,
  fun _ _ _ _ _ _ => p_rb1 (c := fun x => decide (x = 0)) (off := 27) (by decide +kernel : p_at 7 84 = some (.ifCond .eq 27)) (by decide +kernel) rfl rfl rfl,
  fun _ _ _ _ _ => p_r (by decide +kernel : p_at 7 87 = some (.aload_n 0)) rfl,
  fun _ _ _ _ _ => p_r (by decide +kernel : p_at 7 88 = some (.aload_n 0)) rfl,
  fun _ _ _ _ _ => p_rgf (f := some 10) (by decide +kernel : p_at 7 89 = some (.getfield 18)) (by decide +kernel : p_fld (p_own 7) 18 = some (0, 1)) (rfl : p_ob 3 = some (.inr (0, [some 9, some 10, some 20, some 21, some 22, none, none, none]))) rfl,
  fun _ _ _ _ _ => p_r (by decide +kernel : p_at 7 92 = some (.iload_n 2)) rfl,
  fun _ _ _ _ _ _ => p_rcv (nl := 2) (by decide +kernel : p_at 7 93 = some (.invokevirtual 75)) (by decide +kernel : p_inv (p_own 7) 75 = some (1, 24, 2)) (by decide +kernel) (rfl : p_ob 10 = some (.inr (2, [some 17]))) rfl rfl (Nat.le_of_ble_eq_true rfl) (Nat.le_of_ble_eq_true rfl) (Nat.le_of_ble_eq_true rfl) rfl,
  fun _ _ _ _ _ _ => p_r (by decide +kernel : p_at 7 96 = some (.iload_n 1)) rfl,
  fun _ _ _ _ _ _ _ => p_r (by decide +kernel : p_at 7 97 = some (.lshr)) rfl,
  fun _ _ _ _ _ _ => p_r (by decide +kernel : p_at 7 98 = some (.lconst 0)) rfl,
  fun _ _ _ _ _ _ _ => p_r (by decide +kernel : p_at 7 99 = some (.lcmp)) rfl,
  fun _ _ _ _ _ _ => p_rb1 (c := fun x => decide (¬ x = 0)) (off := 7) (by decide +kernel : p_at 7 100 = some (.ifCond .ne 7)) (by decide +kernel) rfl rfl rfl,
  fun _ _ _ _ _ => p_r (by decide +kernel : p_at 7 103 = some (.iconst 0)) rfl,
  fun _ _ _ _ _ _ => p_rgo (by decide +kernel : p_at 7 104 = some (.goto 4)) (by decide +kernel),
  fun _ _ _ _ _ => p_r (by decide +kernel : p_at 7 107 = some (.iconst 1)) rfl,
  fun _ _ _ _ _ _ => p_rcv (nl := 2) (by decide +kernel : p_at 7 108 = some (.invokevirtual 53)) (by decide +kernel : p_inv (p_own 7) 53 = some (1, 12, 2)) (by decide +kernel) (rfl : p_ob 3 = some (.inr (0, [some 9, some 10, some 20, some 21, some 22, none, none, none]))) rfl rfl (Nat.le_of_ble_eq_true rfl) (Nat.le_of_ble_eq_true rfl) (Nat.le_of_ble_eq_true rfl) rfl,
  fun _ _ _ _ _ => p_r (by decide +kernel : p_at 7 111 = some (.iinc 2 1)) rfl,
  fun _ _ _ _ _ => p_rgo (by decide +kernel : p_at 7 114 = some (.goto (-112))) (by decide +kernel),
  fun _ _ _ _ _ => p_rvret (by decide +kernel : p_at 7 117 = some (.return_)) (by decide +kernel)⟩
theorem H7_2 :
  (∀ (scr : pX) (w : pW) (x1 : Int32) (x2 : Int32) (z3 : Value), p_ev scr 7 2 [.ref 3, .int x1, .int x2, z3, p_U] [] w = p_ev scr 7 3 [.ref 3, .int x1, .int x2, z3, p_U] [.int x2] w) :=
  fun _ _ _ _ _ => p_r (by decide +kernel : p_at 7 2 = some (.iload_n 2)) rfl
-- 8: writeSecondPass
theorem M8 :
  (∀ (scr : pX) (w : pW) (x1 : Int32), p_ev scr 8 0 [.ref 3, .int x1, p_U, p_U, p_U] [] w = p_ev scr 8 1 [.ref 3, .int x1, p_U, p_U, p_U] [.int (nI 0)] w) ∧
  (∀ (scr : pX) (w : pW) (x1 : Int32) (s0 : Int32), p_ev scr 8 1 [.ref 3, .int x1, p_U, p_U, p_U] [.int s0] w = p_ev scr 8 2 [.ref 3, .int x1, .int s0, p_U, p_U] [] w) ∧
  (∀ (scr : pX) (w : pW) (x1 : Int32) (x2 : Int32) (z3 : Value) (s0 : Int32), p_ev scr 8 3 [.ref 3, .int x1, .int x2, z3, p_U] [.int s0] w = p_ev scr 8 4 [.ref 3, .int x1, .int x2, z3, p_U] [.ref 3, .int s0] w) ∧
  (∀ (scr : pX) (w : pW) (x1 : Int32) (x2 : Int32) (z3 : Value) (s1 : Int32), p_ev scr 8 4 [.ref 3, .int x1, .int x2, z3, p_U] [.ref 3, .int s1] w = p_ev scr 8 7 [.ref 3, .int x1, .int x2, z3, p_U] [.int (w.1 3 6), .int s1] w) ∧
  (∀ (scr : pX) (w : pW) (x1 : Int32) (x2 : Int32) (z3 : Value) (s0 : Int32) (s1 : Int32), p_ev scr 8 7 [.ref 3, .int x1, .int x2, z3, p_U] [.int s0, .int s1] w = if s0 ≤ s1 then p_ev scr 8 43 [.ref 3, .int x1, .int x2, z3, p_U] [] w else p_ev scr 8 10 [.ref 3, .int x1, .int x2, z3, p_U] [] w) ∧
  (∀ (scr : pX) (w : pW) (x1 : Int32) (x2 : Int32) (z3 : Value), p_ev scr 8 10 [.ref 3, .int x1, .int x2, z3, p_U] [] w = p_ev scr 8 11 [.ref 3, .int x1, .int x2, z3, p_U] [.ref 3] w) ∧
  (∀ (scr : pX) (w : pW) (x1 : Int32) (x2 : Int32) (z3 : Value), p_ev scr 8 11 [.ref 3, .int x1, .int x2, z3, p_U] [.ref 3] w = p_ev scr 8 14 [.ref 3, .int x1, .int x2, z3, p_U] [.ref 9] w) ∧
  (∀ (scr : pX) (w : pW) (x1 : Int32) (x2 : Int32) (z3 : Value), p_ev scr 8 14 [.ref 3, .int x1, .int x2, z3, p_U] [.ref 9] w = p_ev scr 8 15 [.ref 3, .int x1, .int x2, z3, p_U] [.int x2, .ref 9] w) ∧
  (∀ (scr : pX) (w : pW) (x1 : Int32) (x2 : Int32) (z3 : Value) (s0 : Int32), p_ev scr 8 15 [.ref 3, .int x1, .int x2, z3, p_U] [.int s0, .ref 9] w = p_bnd scr 8 15 18 [.ref 3, .int x1, .int x2, z3, p_U] [] (p_ev none 26 0 [.ref 9, .int s0] [] w)) ∧
  (∀ (scr : pX) (w : pW) (x1 : Int32) (x2 : Int32) (z3 : Value) (t0 : Int64), p_ev scr 8 18 [.ref 3, .int x1, .int x2, z3, p_U] [.long t0] w = p_ev scr 8 19 [.ref 3, .int x1, .int x2, z3, p_U] [.int x1, .long t0] w) ∧
  (∀ (scr : pX) (w : pW) (x1 : Int32) (x2 : Int32) (z3 : Value) (s0 : Int32) (t1 : Int64), p_ev scr 8 19 [.ref 3, .int x1, .int x2, z3, p_U] [.int s0, .long t1] w = p_ev scr 8 20 [.ref 3, .int x1, .int x2, z3, p_U] [.long (t1 >>> (s0.toInt64 &&& 63))] w) ∧
  (∀ (scr : pX) (w : pW) (x1 : Int32) (x2 : Int32) (z3 : Value) (t0 : Int64), p_ev scr 8 20 [.ref 3, .int x1, .int x2, z3, p_U] [.long t0] w = p_ev scr 8 21 [.ref 3, .int x1, .int x2, .long t0, p_U] [] w) ∧
  (∀ (scr : pX) (w : pW) (x1 : Int32) (x2 : Int32) (y3 : Int64), p_ev scr 8 21 [.ref 3, .int x1, .int x2, .long y3, p_U] [] w = p_ev scr 8 22 [.ref 3, .int x1, .int x2, .long y3, p_U] [.long y3] w) ∧
  (∀ (scr : pX) (w : pW) (x1 : Int32) (x2 : Int32) (y3 : Int64) (t0 : Int64), p_ev scr 8 22 [.ref 3, .int x1, .int x2, .long y3, p_U] [.long t0] w = p_ev scr 8 23 [.ref 3, .int x1, .int x2, .long y3, p_U] [.long (lN 1), .long t0] w) ∧
  (∀ (scr : pX) (w : pW) (x1 : Int32) (x2 : Int32) (y3 : Int64) (t0 : Int64) (t1 : Int64), p_ev scr 8 23 [.ref 3, .int x1, .int x2, .long y3, p_U] [.long t0, .long t1] w = p_ev scr 8 24 [.ref 3, .int x1, .int x2, .long y3, p_U] [.int (lg_cmp t1 t0)] w) ∧
  (∀ (scr : pX) (w : pW) (x1 : Int32) (x2 : Int32) (y3 : Int64) (s0 : Int32), p_ev scr 8 24 [.ref 3, .int x1, .int x2, .long y3, p_U] [.int s0] w = if s0 ≤ nI 0 then p_ev scr 8 37 [.ref 3, .int x1, .int x2, .long y3, p_U] [] w else p_ev scr 8 27 [.ref 3, .int x1, .int x2, .long y3, p_U] [] w) ∧
  (∀ (scr : pX) (w : pW) (x1 : Int32) (x2 : Int32) (y3 : Int64), p_ev scr 8 27 [.ref 3, .int x1, .int x2, .long y3, p_U] [] w = p_ev scr 8 28 [.ref 3, .int x1, .int x2, .long y3, p_U] [.ref 3] w) ∧
  (∀ (scr : pX) (w : pW) (x1 : Int32) (x2 : Int32) (y3 : Int64), p_ev scr 8 28 [.ref 3, .int x1, .int x2, .long y3, p_U] [.ref 3] w = p_ev scr 8 29 [.ref 3, .int x1, .int x2, .long y3, p_U] [.long y3, .ref 3] w) ∧
  (∀ (scr : pX) (w : pW) (x1 : Int32) (x2 : Int32) (y3 : Int64) (t0 : Int64), p_ev scr 8 29 [.ref 3, .int x1, .int x2, .long y3, p_U] [.long t0, .ref 3] w = p_ev scr 8 30 [.ref 3, .int x1, .int x2, .long y3, p_U] [.long (lN 1), .long t0, .ref 3] w) ∧
  (∀ (scr : pX) (w : pW) (x1 : Int32) (x2 : Int32) (y3 : Int64) (t0 : Int64) (t1 : Int64), p_ev scr 8 30 [.ref 3, .int x1, .int x2, .long y3, p_U] [.long t0, .long t1, .ref 3] w = p_ev scr 8 31 [.ref 3, .int x1, .int x2, .long y3, p_U] [.long (t1 &&& t0), .ref 3] w) ∧
  (∀ (scr : pX) (w : pW) (x1 : Int32) (x2 : Int32) (y3 : Int64) (t0 : Int64), p_ev scr 8 31 [.ref 3, .int x1, .int x2, .long y3, p_U] [.long t0, .ref 3] w = p_ev scr 8 32 [.ref 3, .int x1, .int x2, .long y3, p_U] [.int t0.toInt32, .ref 3] w) ∧
  (∀ (scr : pX) (w : pW) (x1 : Int32) (x2 : Int32) (y3 : Int64) (s0 : Int32), p_ev scr 8 32 [.ref 3, .int x1, .int x2, .long y3, p_U] [.int s0, .ref 3] w = p_ev scr 8 33 [.ref 3, .int x1, .int x2, .long y3, p_U] [.int x2, .int s0, .ref 3] w) ∧
  (∀ (scr : pX) (w : pW) (x1 : Int32) (x2 : Int32) (y3 : Int64) (s0 : Int32) (s1 : Int32), p_ev scr 8 33 [.ref 3, .int x1, .int x2, .long y3, p_U] [.int s0, .int s1, .ref 3] w = p_ev scr 8 34 [.ref 3, .int x1, .int x2, .long y3, p_U] [.int x1, .int s0, .int s1, .ref 3] w) ∧
  (∀ (scr : pX) (w : pW) (x1 : Int32) (x2 : Int32) (y3 : Int64) (s0 : Int32) (s1 : Int32) (s2 : Int32), p_ev scr 8 34 [.ref 3, .int x1, .int x2, .long y3, p_U] [.int s0, .int s1, .int s2, .ref 3] w = p_bnd scr 8 34 37 [.ref 3, .int x1, .int x2, .long y3, p_U] [] (p_ev none 13 0 [.ref 3, .int s2, .int s1, .int s0] [] w)) ∧
  (∀ (scr : pX) (w : pW) (x1 : Int32) (x2 : Int32) (y3 : Int64), p_ev scr 8 37 [.ref 3, .int x1, .int x2, .long y3, p_U] [] w = p_ev scr 8 40 [.ref 3, .int x1, .int (x2 + (nI 1)), .long y3, p_U] [] w) ∧
  (∀ (scr : pX) (w : pW) (x1 : Int32) (x2 : Int32) (y3 : Int64), p_ev scr 8 40 [.ref 3, .int x1, .int x2, .long y3, p_U] [] w = p_ev scr 8 2 [.ref 3, .int x1, .int x2, .long y3, p_U] [] w) ∧
  (∀ (scr : pX) (w : pW) (x1 : Int32) (x2 : Int32) (z3 : Value), p_ev scr 8 43 [.ref 3, .int x1, .int x2, z3, p_U] [] w = some (.inl none, w, 0)) :=
  ⟨fun _ _ _ => p_r (by decide +kernel : p_at 8 0 = some (.iconst 0)) rfl,
  fun _ _ _ _ => p_r (by decide +kernel : p_at 8 1 = some (.istore_n 2)) rfl,
  fun _ _ _ _ _ _ => p_r (by decide +kernel : p_at 8 3 = some (.aload_n 0)) rfl,
  fun _ _ _ _ _ _ => p_rgf (f := none) (by decide +kernel : p_at 8 4 = some (.getfield 39)) (by decide +kernel : p_fld (p_own 8) 39 = some (0, 6)) (rfl : p_ob 3 = some (.inr (0, [some 9, some 10, some 20, some 21, some 22, none, none, none]))) rfl,
  fun _ _ _ _ _ _ _ => p_rb2 (c := fun x y => decide (y ≤ x)) (off := 36) (by decide +kernel : p_at 8 7 = some (.if_icmp .ge 36)) (by decide +kernel) rfl rfl rfl,
  fun _ _ _ _ _ => p_r (by decide +kernel : p_at 8 10 = some (.aload_n 0)) rfl,
  fun _ _ _ _ _ => p_rgf (f := some 9) (by decide +kernel : p_at 8 11 = some (.getfield 14)) (by decide +kernel : p_fld (p_own 8) 14 = some (0, 0)) (rfl : p_ob 3 = some (.inr (0, [some 9, some 10, some 20, some 21, some 22, none, none, none]))) rfl,
  fun _ _ _ _ _ => p_r (by decide +kernel : p_at 8 14 = some (.iload_n 2)) rfl,
  fun _ _ _ _ _ _ => p_rcv (nl := 2) (by decide +kernel : p_at 8 15 = some (.invokevirtual 71)) (by decide +kernel : p_inv (p_own 8) 71 = some (1, 26, 2)) (by decide +kernel) (rfl : p_ob 9 = some (.inr (2, [some 16]))) rfl rfl (Nat.le_of_ble_eq_true rfl) (Nat.le_of_ble_eq_true rfl) (Nat.le_of_ble_eq_true rfl) rfl,
  fun _ _ _ _ _ _ => p_r (by decide +kernel : p_at 8 18 = some (.iload_n 1)) rfl,
  fun _ _ _ _ _ _ _ => p_r (by decide +kernel : p_at 8 19 = some (.lshr)) rfl,
  fun _ _ _ _ _ _ => p_r (by decide +kernel : p_at 8 20 = some (.lstore_n 3)) rfl,
  fun _ _ _ _ _ => p_r (by decide +kernel : p_at 8 21 = some (.lload_n 3)) rfl,
  fun _ _ _ _ _ _ => p_r (by decide +kernel : p_at 8 22 = some (.lconst 1)) rfl,
  fun _ _ _ _ _ _ _ => p_r (by decide +kernel : p_at 8 23 = some (.lcmp)) rfl,
  fun _ _ _ _ _ _ => p_rb1 (c := fun x => decide (x ≤ 0)) (off := 13) (by decide +kernel : p_at 8 24 = some (.ifCond .le 13)) (by decide +kernel) rfl rfl rfl,
  fun _ _ _ _ _ => p_r (by decide +kernel : p_at 8 27 = some (.aload_n 0)) rfl,
  fun _ _ _ _ _ => p_r (by decide +kernel : p_at 8 28 = some (.lload_n 3)) rfl,
  fun _ _ _ _ _ _ => p_r (by decide +kernel : p_at 8 29 = some (.lconst 1)) rfl,
  fun _ _ _ _ _ _ _ => p_r (by decide +kernel : p_at 8 30 = some (.land)) rfl,
  fun _ _ _ _ _ _ => p_r (by decide +kernel : p_at 8 31 = some (.l2i)) rfl,
  fun _ _ _ _ _ _ => p_r (by decide +kernel : p_at 8 32 = some (.iload_n 2)) rfl,
  fun _ _ _ _ _ _ _ => p_r (by decide +kernel : p_at 8 33 = some (.iload_n 1)) rfl,
  fun _ _ _ _ _ _ _ _ => p_rcv (nl := 4) (by decide +kernel : p_at 8 34 = some (.invokevirtual 88)) (by decide +kernel : p_inv (p_own 8) 88 = some (1, 13, 4)) (by decide +kernel) (rfl : p_ob 3 = some (.inr (0, [some 9, some 10, some 20, some 21, some 22, none, none, none]))) rfl rfl (Nat.le_of_ble_eq_true rfl) (Nat.le_of_ble_eq_true rfl) (Nat.le_of_ble_eq_true rfl) rfl,
  fun _ _ _ _ _ => p_r (by decide +kernel : p_at 8 37 = some (.iinc 2 1)) rfl,
  fun _ _ _ _ _ => p_rgo (by decide +kernel : p_at 8 40 = some (.goto (-38))) (by decide +kernel),
  fun _ _ _ _ _ => p_rvret (by decide +kernel : p_at 8 43 = some (.return_)) (by decide +kernel)⟩
theorem H8_2 :
  (∀ (scr : pX) (w : pW) (x1 : Int32) (x2 : Int32) (z3 : Value), p_ev scr 8 2 [.ref 3, .int x1, .int x2, z3, p_U] [] w = p_ev scr 8 3 [.ref 3, .int x1, .int x2, z3, p_U] [.int x2] w) :=
  fun _ _ _ _ _ => p_r (by decide +kernel : p_at 8 2 = some (.iload_n 2)) rfl
-- 9: isLeftOut
theorem M9 :
  (∀ (scr : pX) (w : pW) (x1 : Int32) (x2 : Int32), p_ev scr 9 0 [.ref 3, .int x1, .int x2] [] w = p_ev scr 9 1 [.ref 3, .int x1, .int x2] [.int x1] w) ∧
  (∀ (scr : pX) (w : pW) (x1 : Int32) (x2 : Int32) (s0 : Int32), p_ev scr 9 1 [.ref 3, .int x1, .int x2] [.int s0] w = p_ev scr 9 2 [.ref 3, .int x1, .int x2] [.ref 3, .int s0] w) ∧
  (∀ (scr : pX) (w : pW) (x1 : Int32) (x2 : Int32) (s1 : Int32), p_ev scr 9 2 [.ref 3, .int x1, .int x2] [.ref 3, .int s1] w = p_ev scr 9 5 [.ref 3, .int x1, .int x2] [.int (w.1 3 7), .int s1] w) ∧
  (∀ (scr : pX) (w : pW) (x1 : Int32) (x2 : Int32) (s0 : Int32) (s1 : Int32), p_ev scr 9 5 [.ref 3, .int x1, .int x2] [.int s0, .int s1] w = if s1 < s0 then p_ev scr 9 31 [.ref 3, .int x1, .int x2] [] w else p_ev scr 9 8 [.ref 3, .int x1, .int x2] [] w) ∧
  (∀ (scr : pX) (w : pW) (x1 : Int32) (x2 : Int32), p_ev scr 9 8 [.ref 3, .int x1, .int x2] [] w = p_ev scr 9 9 [.ref 3, .int x1, .int x2] [.ref 3] w) ∧
  (∀ (scr : pX) (w : pW) (x1 : Int32) (x2 : Int32), p_ev scr 9 9 [.ref 3, .int x1, .int x2] [.ref 3] w = p_ev scr 9 12 [.ref 3, .int x1, .int x2] [.ref 10] w) ∧
  (∀ (scr : pX) (w : pW) (x1 : Int32) (x2 : Int32), p_ev scr 9 12 [.ref 3, .int x1, .int x2] [.ref 10] w = p_ev scr 9 13 [.ref 3, .int x1, .int x2] [.ref 3, .ref 10] w) ∧
  (∀ (scr : pX) (w : pW) (x1 : Int32) (x2 : Int32), p_ev scr 9 13 [.ref 3, .int x1, .int x2] [.ref 3, .ref 10] w = p_ev scr 9 14 [.ref 3, .int x1, .int x2] [.int x1, .ref 3, .ref 10] w) ∧
  (∀ (scr : pX) (w : pW) (x1 : Int32) (x2 : Int32) (s0 : Int32), p_ev scr 9 14 [.ref 3, .int x1, .int x2] [.int s0, .ref 3, .ref 10] w = p_bnd scr 9 14 17 [.ref 3, .int x1, .int x2] [.ref 10] (p_ev none 11 0 [.ref 3, .int s0] [] w)) ∧
  (∀ (scr : pX) (w : pW) (x1 : Int32) (x2 : Int32) (s0 : Int32), p_ev scr 9 17 [.ref 3, .int x1, .int x2] [.int s0, .ref 10] w = p_bnd scr 9 17 20 [.ref 3, .int x1, .int x2] [] (p_ev none 24 0 [.ref 10, .int s0] [] w)) ∧
  (∀ (scr : pX) (w : pW) (x1 : Int32) (x2 : Int32) (t0 : Int64), p_ev scr 9 20 [.ref 3, .int x1, .int x2] [.long t0] w = p_ev scr 9 21 [.ref 3, .int x1, .int x2] [.int x2, .long t0] w) ∧
  (∀ (scr : pX) (w : pW) (x1 : Int32) (x2 : Int32) (s0 : Int32) (t1 : Int64), p_ev scr 9 21 [.ref 3, .int x1, .int x2] [.int s0, .long t1] w = p_ev scr 9 22 [.ref 3, .int x1, .int x2] [.long (t1 >>> (s0.toInt64 &&& 63))] w) ∧
  (∀ (scr : pX) (w : pW) (x1 : Int32) (x2 : Int32) (t0 : Int64), p_ev scr 9 22 [.ref 3, .int x1, .int x2] [.long t0] w = p_ev scr 9 23 [.ref 3, .int x1, .int x2] [.long (lN 0), .long t0] w) ∧
  (∀ (scr : pX) (w : pW) (x1 : Int32) (x2 : Int32) (t0 : Int64) (t1 : Int64), p_ev scr 9 23 [.ref 3, .int x1, .int x2] [.long t0, .long t1] w = p_ev scr 9 24 [.ref 3, .int x1, .int x2] [.int (lg_cmp t1 t0)] w) ∧
  (∀ (scr : pX) (w : pW) (x1 : Int32) (x2 : Int32) (s0 : Int32), p_ev scr 9 24 [.ref 3, .int x1, .int x2] [.int s0] w = if ¬ s0 = nI 0 then p_ev scr 9 31 [.ref 3, .int x1, .int x2] [] w else p_ev scr 9 27 [.ref 3, .int x1, .int x2] [] w) ∧
  (∀ (scr : pX) (w : pW) (x1 : Int32) (x2 : Int32), p_ev scr 9 27 [.ref 3, .int x1, .int x2] [] w = p_ev scr 9 28 [.ref 3, .int x1, .int x2] [.int (nI 1)] w) ∧
  (∀ (scr : pX) (w : pW) (x1 : Int32) (x2 : Int32) (s0 : Int32), p_ev scr 9 28 [.ref 3, .int x1, .int x2] [.int s0] w = p_ev scr 9 32 [.ref 3, .int x1, .int x2] [.int s0] w) ∧
  (∀ (scr : pX) (w : pW) (x1 : Int32) (x2 : Int32), p_ev scr 9 31 [.ref 3, .int x1, .int x2] [] w = p_ev scr 9 32 [.ref 3, .int x1, .int x2] [.int (nI 0)] w) ∧
  (∀ (scr : pX) (w : pW) (x1 : Int32) (x2 : Int32) (s0 : Int32), narrow .boolean (.int s0) = .int s0 → p_ev scr 9 32 [.ref 3, .int x1, .int x2] [.int s0] w = some (.inl (some (.int s0)), w, 0)) :=
  ⟨fun _ _ _ _ => p_r (by decide +kernel : p_at 9 0 = some (.iload_n 1)) rfl,
  fun _ _ _ _ _ => p_r (by decide +kernel : p_at 9 1 = some (.aload_n 0)) rfl,
  fun _ _ _ _ _ => p_rgf (f := none) (by decide +kernel : p_at 9 2 = some (.getfield 42)) (by decide +kernel : p_fld (p_own 9) 42 = some (0, 7)) (rfl : p_ob 3 = some (.inr (0, [some 9, some 10, some 20, some 21, some 22, none, none, none]))) rfl,
  fun _ _ _ _ _ _ => p_rb2 (c := fun x y => decide (x < y)) (off := 26) (by decide +kernel : p_at 9 5 = some (.if_icmp .lt 26)) (by decide +kernel) rfl rfl rfl,
  fun _ _ _ _ => p_r (by decide +kernel : p_at 9 8 = some (.aload_n 0)) rfl,
  fun _ _ _ _ => p_rgf (f := some 10) (by decide +kernel : p_at 9 9 = some (.getfield 18)) (by decide +kernel : p_fld (p_own 9) 18 = some (0, 1)) (rfl : p_ob 3 = some (.inr (0, [some 9, some 10, some 20, some 21, some 22, none, none, none]))) rfl,
  fun _ _ _ _ => p_r (by decide +kernel : p_at 9 12 = some (.aload_n 0)) rfl,
  fun _ _ _ _ => p_r (by decide +kernel : p_at 9 13 = some (.iload_n 1)) rfl,
  fun _ _ _ _ _ => p_rcv (nl := 2) (by decide +kernel : p_at 9 14 = some (.invokevirtual 84)) (by decide +kernel : p_inv (p_own 9) 84 = some (1, 11, 2)) (by decide +kernel) (rfl : p_ob 3 = some (.inr (0, [some 9, some 10, some 20, some 21, some 22, none, none, none]))) rfl rfl (Nat.le_of_ble_eq_true rfl) (Nat.le_of_ble_eq_true rfl) (Nat.le_of_ble_eq_true rfl) rfl,
  fun _ _ _ _ _ => p_rcv (nl := 2) (by decide +kernel : p_at 9 17 = some (.invokevirtual 75)) (by decide +kernel : p_inv (p_own 9) 75 = some (1, 24, 2)) (by decide +kernel) (rfl : p_ob 10 = some (.inr (2, [some 17]))) rfl rfl (Nat.le_of_ble_eq_true rfl) (Nat.le_of_ble_eq_true rfl) (Nat.le_of_ble_eq_true rfl) rfl,
  fun _ _ _ _ _ => p_r (by decide +kernel : p_at 9 20 = some (.iload_n 2)) rfl,
  fun _ _ _ _ _ _ => p_r (by decide +kernel : p_at 9 21 = some (.lshr)) rfl,
  fun _ _ _ _ _ => p_r (by decide +kernel : p_at 9 22 = some (.lconst 0)) rfl,
  fun _ _ _ _ _ _ => p_r (by decide +kernel : p_at 9 23 = some (.lcmp)) rfl,
  fun _ _ _ _ _ => p_rb1 (c := fun x => decide (¬ x = 0)) (off := 7) (by decide +kernel : p_at 9 24 = some (.ifCond .ne 7)) (by decide +kernel) rfl rfl rfl,
  fun _ _ _ _ => p_r (by decide +kernel : p_at 9 27 = some (.iconst 1)) rfl,
  fun _ _ _ _ _ => p_rgo (by decide +kernel : p_at 9 28 = some (.goto 4)) (by decide +kernel),
  fun _ _ _ _ => p_r (by decide +kernel : p_at 9 31 = some (.iconst 0)) rfl,
  fun _ _ _ _ _ hp => p_rzret (by decide +kernel : p_at 9 32 = some (.ireturn)) (by decide +kernel) hp⟩
-- 10: hasDescendants
theorem M10 :
  (∀ (scr : pX) (w : pW) (x1 : Int32), p_ev scr 10 0 [.ref 3, .int x1] [] w = p_ev scr 10 1 [.ref 3, .int x1] [.int x1] w) ∧
  (∀ (scr : pX) (w : pW) (x1 : Int32) (s0 : Int32), p_ev scr 10 1 [.ref 3, .int x1] [.int s0] w = p_ev scr 10 2 [.ref 3, .int x1] [.ref 3, .int s0] w) ∧
  (∀ (scr : pX) (w : pW) (x1 : Int32) (s1 : Int32), p_ev scr 10 2 [.ref 3, .int x1] [.ref 3, .int s1] w = p_ev scr 10 5 [.ref 3, .int x1] [.int (w.1 3 7), .int s1] w) ∧
  (∀ (scr : pX) (w : pW) (x1 : Int32) (s0 : Int32) (s1 : Int32), p_ev scr 10 5 [.ref 3, .int x1] [.int s0, .int s1] w = if s0 ≤ s1 then p_ev scr 10 17 [.ref 3, .int x1] [] w else p_ev scr 10 8 [.ref 3, .int x1] [] w) ∧
  (∀ (scr : pX) (w : pW) (x1 : Int32), p_ev scr 10 8 [.ref 3, .int x1] [] w = p_ev scr 10 9 [.ref 3, .int x1] [.int x1] w) ∧
  (∀ (scr : pX) (w : pW) (x1 : Int32) (s0 : Int32), p_ev scr 10 9 [.ref 3, .int x1] [.int s0] w = p_ev scr 10 10 [.ref 3, .int x1] [.ref 3, .int s0] w) ∧
  (∀ (scr : pX) (w : pW) (x1 : Int32) (s1 : Int32), p_ev scr 10 10 [.ref 3, .int x1] [.ref 3, .int s1] w = p_ev scr 10 13 [.ref 3, .int x1] [.int (w.1 3 7), .int s1] w) ∧
  (∀ (scr : pX) (w : pW) (x1 : Int32) (s0 : Int32) (s1 : Int32), p_ev scr 10 13 [.ref 3, .int x1] [.int s0, .int s1] w = p_ev scr 10 14 [.ref 3, .int x1] [.int (s1 + s0)] w) ∧
  (∀ (scr : pX) (w : pW) (x1 : Int32) (s0 : Int32), p_ev scr 10 14 [.ref 3, .int x1] [.int s0] w = p_ev scr 10 20 [.ref 3, .int x1] [.int s0] w) ∧
  (∀ (scr : pX) (w : pW) (x1 : Int32), p_ev scr 10 17 [.ref 3, .int x1] [] w = p_ev scr 10 18 [.ref 3, .int x1] [.int (nI 2)] w) ∧
  (∀ (scr : pX) (w : pW) (x1 : Int32) (s0 : Int32), p_ev scr 10 18 [.ref 3, .int x1] [.int s0] w = p_ev scr 10 19 [.ref 3, .int x1] [.int x1, .int s0] w) ∧
  (∀ (scr : pX) (w : pW) (x1 : Int32) (s0 : Int32) (s1 : Int32), p_ev scr 10 19 [.ref 3, .int x1] [.int s0, .int s1] w = p_ev scr 10 20 [.ref 3, .int x1] [.int (s1 * s0)] w) ∧
  (∀ (scr : pX) (w : pW) (x1 : Int32) (s0 : Int32), p_ev scr 10 20 [.ref 3, .int x1] [.int s0] w = p_ev scr 10 21 [.ref 3, .int x1] [.ref 3, .int s0] w) ∧
  (∀ (scr : pX) (w : pW) (x1 : Int32) (s1 : Int32), p_ev scr 10 21 [.ref 3, .int x1] [.ref 3, .int s1] w = p_ev scr 10 24 [.ref 3, .int x1] [.int (w.1 3 6), .int s1] w) ∧
  (∀ (scr : pX) (w : pW) (x1 : Int32) (s0 : Int32) (s1 : Int32), p_ev scr 10 24 [.ref 3, .int x1] [.int s0, .int s1] w = if s0 ≤ s1 then p_ev scr 10 31 [.ref 3, .int x1] [] w else p_ev scr 10 27 [.ref 3, .int x1] [] w) ∧
  (∀ (scr : pX) (w : pW) (x1 : Int32), p_ev scr 10 27 [.ref 3, .int x1] [] w = p_ev scr 10 28 [.ref 3, .int x1] [.int (nI 1)] w) ∧
  (∀ (scr : pX) (w : pW) (x1 : Int32) (s0 : Int32), p_ev scr 10 28 [.ref 3, .int x1] [.int s0] w = p_ev scr 10 32 [.ref 3, .int x1] [.int s0] w) ∧
  (∀ (scr : pX) (w : pW) (x1 : Int32), p_ev scr 10 31 [.ref 3, .int x1] [] w = p_ev scr 10 32 [.ref 3, .int x1] [.int (nI 0)] w) ∧
  (∀ (scr : pX) (w : pW) (x1 : Int32) (s0 : Int32), narrow .boolean (.int s0) = .int s0 → p_ev scr 10 32 [.ref 3, .int x1] [.int s0] w = some (.inl (some (.int s0)), w, 0)) :=
  ⟨fun _ _ _ => p_r (by decide +kernel : p_at 10 0 = some (.iload_n 1)) rfl,
  fun _ _ _ _ => p_r (by decide +kernel : p_at 10 1 = some (.aload_n 0)) rfl,
  fun _ _ _ _ => p_rgf (f := none) (by decide +kernel : p_at 10 2 = some (.getfield 42)) (by decide +kernel : p_fld (p_own 10) 42 = some (0, 7)) (rfl : p_ob 3 = some (.inr (0, [some 9, some 10, some 20, some 21, some 22, none, none, none]))) rfl,
  fun _ _ _ _ _ => p_rb2 (c := fun x y => decide (y ≤ x)) (off := 12) (by decide +kernel : p_at 10 5 = some (.if_icmp .ge 12)) (by decide +kernel) rfl rfl rfl,
  fun _ _ _ => p_r (by decide +kernel : p_at 10 8 = some (.iload_n 1)) rfl,
  fun _ _ _ _ => p_r (by decide +kernel : p_at 10 9 = some (.aload_n 0)) rfl,
  fun _ _ _ _ => p_rgf (f := none) (by decide +kernel : p_at 10 10 = some (.getfield 42)) (by decide +kernel : p_fld (p_own 10) 42 = some (0, 7)) (rfl : p_ob 3 = some (.inr (0, [some 9, some 10, some 20, some 21, some 22, none, none, none]))) rfl,
  fun _ _ _ _ _ => p_r (by decide +kernel : p_at 10 13 = some (.iadd)) rfl,
  fun _ _ _ _ => p_rgo (by decide +kernel : p_at 10 14 = some (.goto 6)) (by decide +kernel),
  fun _ _ _ => p_r (by decide +kernel : p_at 10 17 = some (.iconst 2)) rfl,
  fun _ _ _ _ => p_r (by decide +kernel : p_at 10 18 = some (.iload_n 1)) rfl,
  fun _ _ _ _ _ => p_r (by decide +kernel : p_at 10 19 = some (.imul)) rfl,
  fun _ _ _ _ => p_r (by decide +kernel : p_at 10 20 = some (.aload_n 0)) rfl,
  fun _ _ _ _ => p_rgf (f := none) (by decide +kernel : p_at 10 21 = some (.getfield 39)) (by decide +kernel : p_fld (p_own 10) 39 = some (0, 6)) (rfl : p_ob 3 = some (.inr (0, [some 9, some 10, some 20, some 21, some 22, none, none, none]))) rfl,
  fun _ _ _ _ _ => p_rb2 (c := fun x y => decide (y ≤ x)) (off := 7) (by decide +kernel : p_at 10 24 = some (.if_icmp .ge 7)) (by decide +kernel) rfl rfl rfl,
  fun _ _ _ => p_r (by decide +kernel : p_at 10 27 = some (.iconst 1)) rfl,
  fun _ _ _ _ => p_rgo (by decide +kernel : p_at 10 28 = some (.goto 4)) (by decide +kernel),
  fun _ _ _ => p_r (by decide +kernel : p_at 10 31 = some (.iconst 0)) rfl,
  fun _ _ _ _ hp => p_rzret (by decide +kernel : p_at 10 32 = some (.ireturn)) (by decide +kernel) hp⟩
-- 11: parentOf
theorem M11 :
  (∀ (scr : pX) (w : pW) (x1 : Int32), p_ev scr 11 0 [.ref 3, .int x1] [] w = p_ev scr 11 1 [.ref 3, .int x1] [.int x1] w) ∧
  (∀ (scr : pX) (w : pW) (x1 : Int32) (s0 : Int32), p_ev scr 11 1 [.ref 3, .int x1] [.int s0] w = p_ev scr 11 2 [.ref 3, .int x1] [.int (nI 2), .int s0] w) ∧
  (∀ (scr : pX) (w : pW) (x1 : Int32) (s0 : Int32) (s1 : Int32), p_ev scr 11 2 [.ref 3, .int x1] [.int s0, .int s1] w = p_ev scr 11 3 [.ref 3, .int x1] [.ref 3, .int s0, .int s1] w) ∧
  (∀ (scr : pX) (w : pW) (x1 : Int32) (s1 : Int32) (s2 : Int32), p_ev scr 11 3 [.ref 3, .int x1] [.ref 3, .int s1, .int s2] w = p_ev scr 11 6 [.ref 3, .int x1] [.int (w.1 3 7), .int s1, .int s2] w) ∧
  (∀ (scr : pX) (w : pW) (x1 : Int32) (s0 : Int32) (s1 : Int32) (s2 : Int32), p_ev scr 11 6 [.ref 3, .int x1] [.int s0, .int s1, .int s2] w = p_ev scr 11 7 [.ref 3, .int x1] [.int (s1 * s0), .int s2] w) ∧
  (∀ (scr : pX) (w : pW) (x1 : Int32) (s0 : Int32) (s1 : Int32), p_ev scr 11 7 [.ref 3, .int x1] [.int s0, .int s1] w = if s0 ≤ s1 then p_ev scr 11 19 [.ref 3, .int x1] [] w else p_ev scr 11 10 [.ref 3, .int x1] [] w) ∧
  (∀ (scr : pX) (w : pW) (x1 : Int32), p_ev scr 11 10 [.ref 3, .int x1] [] w = p_ev scr 11 11 [.ref 3, .int x1] [.int x1] w) ∧
  (∀ (scr : pX) (w : pW) (x1 : Int32) (s0 : Int32), p_ev scr 11 11 [.ref 3, .int x1] [.int s0] w = p_ev scr 11 12 [.ref 3, .int x1] [.ref 3, .int s0] w) ∧
  (∀ (scr : pX) (w : pW) (x1 : Int32) (s1 : Int32), p_ev scr 11 12 [.ref 3, .int x1] [.ref 3, .int s1] w = p_ev scr 11 15 [.ref 3, .int x1] [.int (w.1 3 7), .int s1] w) ∧
  (∀ (scr : pX) (w : pW) (x1 : Int32) (s0 : Int32) (s1 : Int32), p_ev scr 11 15 [.ref 3, .int x1] [.int s0, .int s1] w = p_ev scr 11 16 [.ref 3, .int x1] [.int (s1 - s0)] w) ∧
  (∀ (scr : pX) (w : pW) (x1 : Int32) (s0 : Int32), p_ev scr 11 16 [.ref 3, .int x1] [.int s0] w = p_ev scr 11 22 [.ref 3, .int x1] [.int s0] w) ∧
  (∀ (scr : pX) (w : pW) (x1 : Int32), p_ev scr 11 19 [.ref 3, .int x1] [] w = p_ev scr 11 20 [.ref 3, .int x1] [.int x1] w) ∧
  (∀ (scr : pX) (w : pW) (x1 : Int32) (s0 : Int32), p_ev scr 11 20 [.ref 3, .int x1] [.int s0] w = p_ev scr 11 21 [.ref 3, .int x1] [.int (nI 2), .int s0] w) ∧
  (∀ (scr : pX) (w : pW) (x1 : Int32) (s0 : Int32) (s1 : Int32), ¬ s0 = 0 → p_ev scr 11 21 [.ref 3, .int x1] [.int s0, .int s1] w = p_ev scr 11 22 [.ref 3, .int x1] [.int (s1 / s0)] w) ∧
  (∀ (scr : pX) (w : pW) (x1 : Int32) (s0 : Int32), p_ev scr 11 22 [.ref 3, .int x1] [.int s0] w = some (.inl (some (.int s0)), w, 0)) :=
  ⟨fun _ _ _ => p_r (by decide +kernel : p_at 11 0 = some (.iload_n 1)) rfl,
  fun _ _ _ _ => p_r (by decide +kernel : p_at 11 1 = some (.iconst 2)) rfl,
  fun _ _ _ _ _ => p_r (by decide +kernel : p_at 11 2 = some (.aload_n 0)) rfl,
  fun _ _ _ _ _ => p_rgf (f := none) (by decide +kernel : p_at 11 3 = some (.getfield 42)) (by decide +kernel : p_fld (p_own 11) 42 = some (0, 7)) (rfl : p_ob 3 = some (.inr (0, [some 9, some 10, some 20, some 21, some 22, none, none, none]))) rfl,
  fun _ _ _ _ _ _ => p_r (by decide +kernel : p_at 11 6 = some (.imul)) rfl,
  fun _ _ _ _ _ => p_rb2 (c := fun x y => decide (y ≤ x)) (off := 12) (by decide +kernel : p_at 11 7 = some (.if_icmp .ge 12)) (by decide +kernel) rfl rfl rfl,
  fun _ _ _ => p_r (by decide +kernel : p_at 11 10 = some (.iload_n 1)) rfl,
  fun _ _ _ _ => p_r (by decide +kernel : p_at 11 11 = some (.aload_n 0)) rfl,
  fun _ _ _ _ => p_rgf (f := none) (by decide +kernel : p_at 11 12 = some (.getfield 42)) (by decide +kernel : p_fld (p_own 11) 42 = some (0, 7)) (rfl : p_ob 3 = some (.inr (0, [some 9, some 10, some 20, some 21, some 22, none, none, none]))) rfl,
  fun _ _ _ _ _ => p_r (by decide +kernel : p_at 11 15 = some (.isub)) rfl,
  fun _ _ _ _ => p_rgo (by decide +kernel : p_at 11 16 = some (.goto 6)) (by decide +kernel),
  fun _ _ _ => p_r (by decide +kernel : p_at 11 19 = some (.iload_n 1)) rfl,
  fun _ _ _ _ => p_r (by decide +kernel : p_at 11 20 = some (.iconst 2)) rfl,
  fun _ _ _ _ _ hp => p_ridiv (by decide +kernel : p_at 11 21 = some (.idiv)) hp,
  fun _ _ _ _ => p_riret (by decide +kernel : p_at 11 22 = some (.ireturn)) (by decide +kernel)⟩
-- 12: put
theorem M12 :
  (∀ (scr : pX) (w : pW) (x1 : Int32), p_ev scr 12 0 [.ref 3, .int x1] [] w = p_ev scr 12 1 [.ref 3, .int x1] [.ref 3] w) ∧
  (∀ (scr : pX) (w : pW) (x1 : Int32), p_ev scr 12 1 [.ref 3, .int x1] [.ref 3] w = p_ev scr 12 2 [.ref 3, .int x1] [.int x1, .ref 3] w) ∧
  (∀ (scr : pX) (w : pW) (x1 : Int32) (s0 : Int32), p_ev scr 12 2 [.ref 3, .int x1] [.int s0, .ref 3] w = p_ev scr 12 3 [.ref 3, .int x1] [.int (-1 : Int32), .int s0, .ref 3] w) ∧
  (∀ (scr : pX) (w : pW) (x1 : Int32) (s0 : Int32) (s1 : Int32), p_ev scr 12 3 [.ref 3, .int x1] [.int s0, .int s1, .ref 3] w = p_ev scr 12 4 [.ref 3, .int x1] [.int (nI 0), .int s0, .int s1, .ref 3] w) ∧
  (∀ (scr : pX) (w : pW) (x1 : Int32) (s0 : Int32) (s1 : Int32) (s2 : Int32), p_ev scr 12 4 [.ref 3, .int x1] [.int s0, .int s1, .int s2, .ref 3] w = p_bnd scr 12 4 7 [.ref 3, .int x1] [] (p_ev none 13 0 [.ref 3, .int s2, .int s1, .int s0] [] w)) ∧
  (∀ (scr : pX) (w : pW) (x1 : Int32), p_ev scr 12 7 [.ref 3, .int x1] [] w = some (.inl none, w, 0)) :=
  ⟨fun _ _ _ => p_r (by decide +kernel : p_at 12 0 = some (.aload_n 0)) rfl,
  fun _ _ _ => p_r (by decide +kernel : p_at 12 1 = some (.iload_n 1)) rfl,
  fun _ _ _ _ => p_r (by decide +kernel : p_at 12 2 = some (.iconst (-1))) rfl,
  fun _ _ _ _ _ => p_r (by decide +kernel : p_at 12 3 = some (.iconst 0)) rfl,
  fun _ _ _ _ _ _ => p_rcv (nl := 4) (by decide +kernel : p_at 12 4 = some (.invokevirtual 88)) (by decide +kernel : p_inv (p_own 12) 88 = some (1, 13, 4)) (by decide +kernel) (rfl : p_ob 3 = some (.inr (0, [some 9, some 10, some 20, some 21, some 22, none, none, none]))) rfl rfl (Nat.le_of_ble_eq_true rfl) (Nat.le_of_ble_eq_true rfl) (Nat.le_of_ble_eq_true rfl) rfl,
  fun _ _ _ => p_rvret (by decide +kernel : p_at 12 7 = some (.return_)) (by decide +kernel)⟩
-- 13: putTelling
theorem M13 :
  (∀ (scr : pX) (w : pW) (x1 : Int32) (x2 : Int32) (x3 : Int32), p_ev scr 13 0 [.ref 3, .int x1, .int x2, .int x3] [] w = p_ev scr 13 1 [.ref 3, .int x1, .int x2, .int x3] [.ref 3] w) ∧
  (∀ (scr : pX) (w : pW) (x1 : Int32) (x2 : Int32) (x3 : Int32), p_ev scr 13 1 [.ref 3, .int x1, .int x2, .int x3] [.ref 3] w = p_ev scr 13 4 [.ref 3, .int x1, .int x2, .int x3] [.int (w.1 3 5)] w) ∧
  (∀ (scr : pX) (w : pW) (x1 : Int32) (x2 : Int32) (x3 : Int32) (s0 : Int32), p_ev scr 13 4 [.ref 3, .int x1, .int x2, .int x3] [.int s0] w = if s0 < nI 0 then p_ev scr 13 60 [.ref 3, .int x1, .int x2, .int x3] [] w else p_ev scr 13 7 [.ref 3, .int x1, .int x2, .int x3] [] w) ∧
  (∀ (scr : pX) (w : pW) (x1 : Int32) (x2 : Int32) (x3 : Int32), p_ev scr 13 7 [.ref 3, .int x1, .int x2, .int x3] [] w = p_ev scr 13 8 [.ref 3, .int x1, .int x2, .int x3] [.ref 3] w) ∧
  (∀ (scr : pX) (w : pW) (x1 : Int32) (x2 : Int32) (x3 : Int32), p_ev scr 13 8 [.ref 3, .int x1, .int x2, .int x3] [.ref 3] w = p_ev scr 13 11 [.ref 3, .int x1, .int x2, .int x3] [.int (w.1 3 5)] w) ∧
  (∀ (scr : pX) (w : pW) (x1 : Int32) (x2 : Int32) (x3 : Int32) (s0 : Int32), p_ev scr 13 11 [.ref 3, .int x1, .int x2, .int x3] [.int s0] w = p_ev scr 13 14 [.ref 3, .int x1, .int x2, .int x3] [.int (nI 4038), .int s0] w) ∧
  (∀ (scr : pX) (w : pW) (x1 : Int32) (x2 : Int32) (x3 : Int32) (s0 : Int32) (s1 : Int32), p_ev scr 13 14 [.ref 3, .int x1, .int x2, .int x3] [.int s0, .int s1] w = if s0 ≤ s1 then p_ev scr 13 60 [.ref 3, .int x1, .int x2, .int x3] [] w else p_ev scr 13 17 [.ref 3, .int x1, .int x2, .int x3] [] w) ∧
  (∀ (scr : pX) (w : pW) (x1 : Int32) (x2 : Int32) (x3 : Int32), p_ev scr 13 17 [.ref 3, .int x1, .int x2, .int x3] [] w = p_ev scr 13 18 [.ref 3, .int x1, .int x2, .int x3] [.ref 3] w) ∧
  (∀ (scr : pX) (w : pW) (x1 : Int32) (x2 : Int32) (x3 : Int32), p_ev scr 13 18 [.ref 3, .int x1, .int x2, .int x3] [.ref 3] w = p_ev scr 13 21 [.ref 3, .int x1, .int x2, .int x3] [.ref 20] w) ∧
  (∀ (scr : pX) (w : pW) (x1 : Int32) (x2 : Int32) (x3 : Int32), p_ev scr 13 21 [.ref 3, .int x1, .int x2, .int x3] [.ref 20] w = p_ev scr 13 22 [.ref 3, .int x1, .int x2, .int x3] [.ref 3, .ref 20] w) ∧
  (∀ (scr : pX) (w : pW) (x1 : Int32) (x2 : Int32) (x3 : Int32), p_ev scr 13 22 [.ref 3, .int x1, .int x2, .int x3] [.ref 3, .ref 20] w = p_ev scr 13 25 [.ref 3, .int x1, .int x2, .int x3] [.int (w.1 3 5), .ref 20] w) ∧
  (∀ (scr : pX) (w : pW) (x1 : Int32) (x2 : Int32) (x3 : Int32) (s0 : Int32), p_ev scr 13 25 [.ref 3, .int x1, .int x2, .int x3] [.int s0, .ref 20] w = p_ev scr 13 26 [.ref 3, .int x1, .int x2, .int x3] [.int x1, .int s0, .ref 20] w) ∧
  (∀ (scr : pX) (w : pW) (x1 : Int32) (x2 : Int32) (x3 : Int32) (s0 : Int32) (s1 : Int32), p_ev scr 13 26 [.ref 3, .int x1, .int x2, .int x3] [.int s0, .int s1, .ref 20] w = p_ev scr 13 27 [.ref 3, .int x1, .int x2, .int x3] [.int s0.toInt8.toInt32, .int s1, .ref 20] w) ∧
  (∀ (scr : pX) (w : pW) (x1 : Int32) (x2 : Int32) (x3 : Int32) (s0 : Int32) (s1 : Int32), p_out s1 4038 = false → p_ev scr 13 27 [.ref 3, .int x1, .int x2, .int x3] [.int s0, .int s1, .ref 20] w = p_ev scr 13 28 [.ref 3, .int x1, .int x2, .int x3] [] (w.1, w.2.1, p_u w.2.2 20 s1.toNatClampNeg (vp_nar .byte s0))) ∧
  (∀ (scr : pX) (w : pW) (x1 : Int32) (x2 : Int32) (x3 : Int32), p_ev scr 13 28 [.ref 3, .int x1, .int x2, .int x3] [] w = p_ev scr 13 29 [.ref 3, .int x1, .int x2, .int x3] [.ref 3] w) ∧
  (∀ (scr : pX) (w : pW) (x1 : Int32) (x2 : Int32) (x3 : Int32), p_ev scr 13 29 [.ref 3, .int x1, .int x2, .int x3] [.ref 3] w = p_ev scr 13 32 [.ref 3, .int x1, .int x2, .int x3] [.ref 21] w) ∧
  (∀ (scr : pX) (w : pW) (x1 : Int32) (x2 : Int32) (x3 : Int32), p_ev scr 13 32 [.ref 3, .int x1, .int x2, .int x3] [.ref 21] w = p_ev scr 13 33 [.ref 3, .int x1, .int x2, .int x3] [.ref 3, .ref 21] w) ∧
  (∀ (scr : pX) (w : pW) (x1 : Int32) (x2 : Int32) (x3 : Int32), p_ev scr 13 33 [.ref 3, .int x1, .int x2, .int x3] [.ref 3, .ref 21] w = p_ev scr 13 36 [.ref 3, .int x1, .int x2, .int x3] [.int (w.1 3 5), .ref 21] w) ∧
  (∀ (scr : pX) (w : pW) (x1 : Int32) (x2 : Int32) (x3 : Int32) (s0 : Int32), p_ev scr 13 36 [.ref 3, .int x1, .int x2, .int x3] [.int s0, .ref 21] w = p_ev scr 13 37 [.ref 3, .int x1, .int x2, .int x3] [.int x2, .int s0, .ref 21] w) ∧
  (∀ (scr : pX) (w : pW) (x1 : Int32) (x2 : Int32) (x3 : Int32) (s0 : Int32) (s1 : Int32), p_ev scr 13 37 [.ref 3, .int x1, .int x2, .int x3] [.int s0, .int s1, .ref 21] w = p_ev scr 13 38 [.ref 3, .int x1, .int x2, .int x3] [.int s0.toInt8.toInt32, .int s1, .ref 21] w) ∧
  (∀ (scr : pX) (w : pW) (x1 : Int32) (x2 : Int32) (x3 : Int32) (s0 : Int32) (s1 : Int32), p_out s1 4038 = false → p_ev scr 13 38 [.ref 3, .int x1, .int x2, .int x3] [.int s0, .int s1, .ref 21] w = p_ev scr 13 39 [.ref 3, .int x1, .int x2, .int x3] [] (w.1, w.2.1, p_u w.2.2 21 s1.toNatClampNeg (vp_nar .byte s0))) ∧
  (∀ (scr : pX) (w : pW) (x1 : Int32) (x2 : Int32) (x3 : Int32), p_ev scr 13 39 [.ref 3, .int x1, .int x2, .int x3] [] w = p_ev scr 13 40 [.ref 3, .int x1, .int x2, .int x3] [.ref 3] w) ∧
  (∀ (scr : pX) (w : pW) (x1 : Int32) (x2 : Int32) (x3 : Int32), p_ev scr 13 40 [.ref 3, .int x1, .int x2, .int x3] [.ref 3] w = p_ev scr 13 43 [.ref 3, .int x1, .int x2, .int x3] [.ref 22] w) ∧
  (∀ (scr : pX) (w : pW) (x1 : Int32) (x2 : Int32) (x3 : Int32), p_ev scr 13 43 [.ref 3, .int x1, .int x2, .int x3] [.ref 22] w = p_ev scr 13 44 [.ref 3, .int x1, .int x2, .int x3] [.ref 3, .ref 22] w) ∧
  (∀ (scr : pX) (w : pW) (x1 : Int32) (x2 : Int32) (x3 : Int32), p_ev scr 13 44 [.ref 3, .int x1, .int x2, .int x3] [.ref 3, .ref 22] w = p_ev scr 13 47 [.ref 3, .int x1, .int x2, .int x3] [.int (w.1 3 5), .ref 22] w) ∧
  (∀ (scr : pX) (w : pW) (x1 : Int32) (x2 : Int32) (x3 : Int32) (s0 : Int32), p_ev scr 13 47 [.ref 3, .int x1, .int x2, .int x3] [.int s0, .ref 22] w = p_ev scr 13 48 [.ref 3, .int x1, .int x2, .int x3] [.int x3, .int s0, .ref 22] w) ∧
  (∀ (scr : pX) (w : pW) (x1 : Int32) (x2 : Int32) (x3 : Int32) (s0 : Int32) (s1 : Int32), p_ev scr 13 48 [.ref 3, .int x1, .int x2, .int x3] [.int s0, .int s1, .ref 22] w = p_ev scr 13 49 [.ref 3, .int x1, .int x2, .int x3] [.int s0.toInt8.toInt32, .int s1, .ref 22] w) ∧
  (∀ (scr : pX) (w : pW) (x1 : Int32) (x2 : Int32) (x3 : Int32) (s0 : Int32) (s1 : Int32), p_out s1 4038 = false → p_ev scr 13 49 [.ref 3, .int x1, .int x2, .int x3] [.int s0, .int s1, .ref 22] w = p_ev scr 13 50 [.ref 3, .int x1, .int x2, .int x3] [] (w.1, w.2.1, p_u w.2.2 22 s1.toNatClampNeg (vp_nar .byte s0))) ∧
  (∀ (scr : pX) (w : pW) (x1 : Int32) (x2 : Int32) (x3 : Int32), p_ev scr 13 50 [.ref 3, .int x1, .int x2, .int x3] [] w = p_ev scr 13 51 [.ref 3, .int x1, .int x2, .int x3] [.ref 3] w) ∧
  (∀ (scr : pX) (w : pW) (x1 : Int32) (x2 : Int32) (x3 : Int32), p_ev scr 13 51 [.ref 3, .int x1, .int x2, .int x3] [.ref 3] w = p_ev scr 13 52 [.ref 3, .int x1, .int x2, .int x3] [.ref 3, .ref 3] w) ∧
  (∀ (scr : pX) (w : pW) (x1 : Int32) (x2 : Int32) (x3 : Int32), p_ev scr 13 52 [.ref 3, .int x1, .int x2, .int x3] [.ref 3, .ref 3] w = p_ev scr 13 55 [.ref 3, .int x1, .int x2, .int x3] [.int (w.1 3 5), .ref 3] w) ∧
  (∀ (scr : pX) (w : pW) (x1 : Int32) (x2 : Int32) (x3 : Int32) (s0 : Int32), p_ev scr 13 55 [.ref 3, .int x1, .int x2, .int x3] [.int s0, .ref 3] w = p_ev scr 13 56 [.ref 3, .int x1, .int x2, .int x3] [.int (nI 1), .int s0, .ref 3] w) ∧
  (∀ (scr : pX) (w : pW) (x1 : Int32) (x2 : Int32) (x3 : Int32) (s0 : Int32) (s1 : Int32), p_ev scr 13 56 [.ref 3, .int x1, .int x2, .int x3] [.int s0, .int s1, .ref 3] w = p_ev scr 13 57 [.ref 3, .int x1, .int x2, .int x3] [.int (s1 + s0), .ref 3] w) ∧
  (∀ (scr : pX) (w : pW) (x1 : Int32) (x2 : Int32) (x3 : Int32) (s0 : Int32), p_ev scr 13 57 [.ref 3, .int x1, .int x2, .int x3] [.int s0, .ref 3] w = p_ev scr 13 60 [.ref 3, .int x1, .int x2, .int x3] [] (p_u w.1 3 5 s0, w.2)) ∧
  (∀ (scr : pX) (w : pW) (x1 : Int32) (x2 : Int32) (x3 : Int32), p_ev scr 13 60 [.ref 3, .int x1, .int x2, .int x3] [] w = some (.inl none, w, 0)) :=
  ⟨fun _ _ _ _ _ => p_r (by decide +kernel : p_at 13 0 = some (.aload_n 0)) rfl,
  fun _ _ _ _ _ => p_rgf (f := none) (by decide +kernel : p_at 13 1 = some (.getfield 31)) (by decide +kernel : p_fld (p_own 13) 31 = some (0, 5)) (rfl : p_ob 3 = some (.inr (0, [some 9, some 10, some 20, some 21, some 22, none, none, none]))) rfl,
  fun _ _ _ _ _ _ => p_rb1 (c := fun x => decide (x < 0)) (off := 56) (by decide +kernel : p_at 13 4 = some (.ifCond .lt 56)) (by decide +kernel) rfl rfl rfl,
  fun _ _ _ _ _ => p_r (by decide +kernel : p_at 13 7 = some (.aload_n 0)) rfl,
  fun _ _ _ _ _ => p_rgf (f := none) (by decide +kernel : p_at 13 8 = some (.getfield 31)) (by decide +kernel : p_fld (p_own 13) 31 = some (0, 5)) (rfl : p_ob 3 = some (.inr (0, [some 9, some 10, some 20, some 21, some 22, none, none, none]))) rfl,
  fun _ _ _ _ _ _ => p_r (by decide +kernel : p_at 13 11 = some (.sipush 4038)) rfl,
  fun _ _ _ _ _ _ _ => p_rb2 (c := fun x y => decide (y ≤ x)) (off := 46) (by decide +kernel : p_at 13 14 = some (.if_icmp .ge 46)) (by decide +kernel) rfl rfl rfl,
  fun _ _ _ _ _ => p_r (by decide +kernel : p_at 13 17 = some (.aload_n 0)) rfl,
  fun _ _ _ _ _ => p_rgf (f := some 20) (by decide +kernel : p_at 13 18 = some (.getfield 21)) (by decide +kernel : p_fld (p_own 13) 21 = some (0, 2)) (rfl : p_ob 3 = some (.inr (0, [some 9, some 10, some 20, some 21, some 22, none, none, none]))) rfl,
  fun _ _ _ _ _ => p_r (by decide +kernel : p_at 13 21 = some (.aload_n 0)) rfl,
  fun _ _ _ _ _ => p_rgf (f := none) (by decide +kernel : p_at 13 22 = some (.getfield 31)) (by decide +kernel : p_fld (p_own 13) 31 = some (0, 5)) (rfl : p_ob 3 = some (.inr (0, [some 9, some 10, some 20, some 21, some 22, none, none, none]))) rfl,
  fun _ _ _ _ _ _ => p_r (by decide +kernel : p_at 13 25 = some (.iload_n 1)) rfl,
  fun _ _ _ _ _ _ _ => p_r (by decide +kernel : p_at 13 26 = some (.i2b)) rfl,
  fun _ _ _ _ _ _ _ hp => p_rbast (by decide +kernel : p_at 13 27 = some (.bastore)) (rfl : p_ob 20 = some (.inl (0, 4038))) (by decide) hp,
  fun _ _ _ _ _ => p_r (by decide +kernel : p_at 13 28 = some (.aload_n 0)) rfl,
  fun _ _ _ _ _ => p_rgf (f := some 21) (by decide +kernel : p_at 13 29 = some (.getfield 25)) (by decide +kernel : p_fld (p_own 13) 25 = some (0, 3)) (rfl : p_ob 3 = some (.inr (0, [some 9, some 10, some 20, some 21, some 22, none, none, none]))) rfl,
  fun _ _ _ _ _ => p_r (by decide +kernel : p_at 13 32 = some (.aload_n 0)) rfl,
  fun _ _ _ _ _ => p_rgf (f := none) (by decide +kernel : p_at 13 33 = some (.getfield 31)) (by decide +kernel : p_fld (p_own 13) 31 = some (0, 5)) (rfl : p_ob 3 = some (.inr (0, [some 9, some 10, some 20, some 21, some 22, none, none, none]))) rfl,
  fun _ _ _ _ _ _ => p_r (by decide +kernel : p_at 13 36 = some (.iload_n 2)) rfl,
  fun _ _ _ _ _ _ _ => p_r (by decide +kernel : p_at 13 37 = some (.i2b)) rfl,
  fun _ _ _ _ _ _ _ hp => p_rbast (by decide +kernel : p_at 13 38 = some (.bastore)) (rfl : p_ob 21 = some (.inl (0, 4038))) (by decide) hp,
  fun _ _ _ _ _ => p_r (by decide +kernel : p_at 13 39 = some (.aload_n 0)) rfl,
  fun _ _ _ _ _ => p_rgf (f := some 22) (by decide +kernel : p_at 13 40 = some (.getfield 28)) (by decide +kernel : p_fld (p_own 13) 28 = some (0, 4)) (rfl : p_ob 3 = some (.inr (0, [some 9, some 10, some 20, some 21, some 22, none, none, none]))) rfl,
  fun _ _ _ _ _ => p_r (by decide +kernel : p_at 13 43 = some (.aload_n 0)) rfl,
  fun _ _ _ _ _ => p_rgf (f := none) (by decide +kernel : p_at 13 44 = some (.getfield 31)) (by decide +kernel : p_fld (p_own 13) 31 = some (0, 5)) (rfl : p_ob 3 = some (.inr (0, [some 9, some 10, some 20, some 21, some 22, none, none, none]))) rfl,
  fun _ _ _ _ _ _ => p_r (by decide +kernel : p_at 13 47 = some (.iload_n 3)) rfl,
  fun _ _ _ _ _ _ _ => p_r (by decide +kernel : p_at 13 48 = some (.i2b)) rfl,
  fun _ _ _ _ _ _ _ hp => p_rbast (by decide +kernel : p_at 13 49 = some (.bastore)) (rfl : p_ob 22 = some (.inl (0, 4038))) (by decide) hp,
  fun _ _ _ _ _ => p_r (by decide +kernel : p_at 13 50 = some (.aload_n 0)) rfl,
  fun _ _ _ _ _ => p_r (by decide +kernel : p_at 13 51 = some (.dup)) rfl,
  fun _ _ _ _ _ => p_rgf (f := none) (by decide +kernel : p_at 13 52 = some (.getfield 31)) (by decide +kernel : p_fld (p_own 13) 31 = some (0, 5)) (rfl : p_ob 3 = some (.inr (0, [some 9, some 10, some 20, some 21, some 22, none, none, none]))) rfl,
  fun _ _ _ _ _ _ => p_r (by decide +kernel : p_at 13 55 = some (.iconst 1)) rfl,
  fun _ _ _ _ _ _ _ => p_r (by decide +kernel : p_at 13 56 = some (.iadd)) rfl,
  fun _ _ _ _ _ _ => p_rpf (by decide +kernel : p_at 13 57 = some (.putfield 31)) (by decide +kernel : p_fld (p_own 13) 31 = some (0, 5)) (rfl : p_ob 3 = some (.inr (0, [some 9, some 10, some 20, some 21, some 22, none, none, none]))) rfl,
  fun _ _ _ _ _ => p_rvret (by decide +kernel : p_at 13 60 = some (.return_)) (by decide +kernel)⟩
