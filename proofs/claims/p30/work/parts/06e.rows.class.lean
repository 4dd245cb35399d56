/-! what the instructions of LiftingWorkshop do, written by wip/whole/gen/rules.py -/
-- 44: begin
theorem M44 :
  (∀ (scr : pX) (w : pW) (x1 : Int32), p_ev scr 44 0 [.ref 0, .int x1, p_U] [] w = p_ev scr 44 1 [.ref 0, .int x1, p_U] [.int x1] w) ∧
  (∀ (scr : pX) (w : pW) (x1 : Int32) (s0 : Int32), p_ev scr 44 1 [.ref 0, .int x1, p_U] [.int s0] w = p_ev scr 44 2 [.ref 0, .int x1, p_U] [.int (nI 4), .int s0] w) ∧
  (∀ (scr : pX) (w : pW) (x1 : Int32) (s0 : Int32) (s1 : Int32), p_ev scr 44 2 [.ref 0, .int x1, p_U] [.int s0, .int s1] w = if s1 = s0 then p_ev scr 44 33 [.ref 0, .int x1, p_U] [] w else p_ev scr 44 5 [.ref 0, .int x1, p_U] [] w) ∧
  (∀ (scr : pX) (w : pW) (x1 : Int32), p_ev scr 44 5 [.ref 0, .int x1, p_U] [] w = p_ev scr 44 6 [.ref 0, .int x1, p_U] [.int x1] w) ∧
  (∀ (scr : pX) (w : pW) (x1 : Int32) (s0 : Int32), p_ev scr 44 6 [.ref 0, .int x1, p_U] [.int s0] w = p_ev scr 44 8 [.ref 0, .int x1, p_U] [.int (nI 8), .int s0] w) ∧
  (∀ (scr : pX) (w : pW) (x1 : Int32) (s0 : Int32) (s1 : Int32), p_ev scr 44 8 [.ref 0, .int x1, p_U] [.int s0, .int s1] w = if s1 = s0 then p_ev scr 44 33 [.ref 0, .int x1, p_U] [] w else p_ev scr 44 11 [.ref 0, .int x1, p_U] [] w) ∧
  (∀ (scr : pX) (w : pW) (x1 : Int32), p_ev scr 44 11 [.ref 0, .int x1, p_U] [] w = p_ev scr 44 12 [.ref 0, .int x1, p_U] [.int x1] w) ∧
  (∀ (scr : pX) (w : pW) (x1 : Int32) (s0 : Int32), p_ev scr 44 12 [.ref 0, .int x1, p_U] [.int s0] w = p_ev scr 44 14 [.ref 0, .int x1, p_U] [.int (nI 16), .int s0] w) ∧
  (∀ (scr : pX) (w : pW) (x1 : Int32) (s0 : Int32) (s1 : Int32), p_ev scr 44 14 [.ref 0, .int x1, p_U] [.int s0, .int s1] w = if s1 = s0 then p_ev scr 44 33 [.ref 0, .int x1, p_U] [] w else p_ev scr 44 17 [.ref 0, .int x1, p_U] [] w) ∧
  (∀ (scr : pX) (w : pW) (x1 : Int32), p_ev scr 44 17 [.ref 0, .int x1, p_U] [] w = p_ev scr 44 18 [.ref 0, .int x1, p_U] [.int x1] w) ∧
  (∀ (scr : pX) (w : pW) (x1 : Int32) (s0 : Int32), p_ev scr 44 18 [.ref 0, .int x1, p_U] [.int s0] w = p_ev scr 44 20 [.ref 0, .int x1, p_U] [.int (nI 32), .int s0] w) ∧
  (∀ (scr : pX) (w : pW) (x1 : Int32) (s0 : Int32) (s1 : Int32), p_ev scr 44 20 [.ref 0, .int x1, p_U] [.int s0, .int s1] w = if s1 = s0 then p_ev scr 44 33 [.ref 0, .int x1, p_U] [] w else p_ev scr 44 23 [.ref 0, .int x1, p_U] [] w) ∧
  (∀ (scr : pX) (w : pW) (x1 : Int32), p_ev scr 44 23 [.ref 0, .int x1, p_U] [] w = some (.inr (.inl 0), w, 1)) ∧
  (∀ (scr : pX) (w : pW) (x1 : Int32), p_ev scr 44 33 [.ref 0, .int x1, p_U] [] w = p_ev scr 44 34 [.ref 0, .int x1, p_U] [.ref 0] w) ∧
  (∀ (scr : pX) (w : pW) (x1 : Int32), p_ev scr 44 34 [.ref 0, .int x1, p_U] [.ref 0] w = p_ev scr 44 37 [.ref 0, .int x1, p_U] [.ref 1] w) ∧
  (∀ (scr : pX) (w : pW) (x1 : Int32), p_ev scr 44 37 [.ref 0, .int x1, p_U] [.ref 1] w = p_bnd scr 44 37 40 [.ref 0, .int x1, p_U] [] (p_ev none 30 0 [.ref 1] [] w)) ∧
  (∀ (scr : pX) (w : pW) (x1 : Int32) (s0 : Int32), p_ev scr 44 40 [.ref 0, .int x1, p_U] [.int s0] w = p_ev scr 44 41 [.ref 0, .int x1, .int s0] [] w) ∧
  (∀ (scr : pX) (w : pW) (x1 : Int32) (x2 : Int32), p_ev scr 44 41 [.ref 0, .int x1, .int x2] [] w = p_ev scr 44 42 [.ref 0, .int x1, .int x2] [.ref 0] w) ∧
  (∀ (scr : pX) (w : pW) (x1 : Int32) (x2 : Int32), p_ev scr 44 42 [.ref 0, .int x1, .int x2] [.ref 0] w = p_ev scr 44 45 [.ref 0, .int x1, .int x2] [.ref 1] w) ∧
  (∀ (scr : pX) (w : pW) (x1 : Int32) (x2 : Int32), p_ev scr 44 45 [.ref 0, .int x1, .int x2] [.ref 1] w = p_ev scr 44 46 [.ref 0, .int x1, .int x2] [.int x1, .ref 1] w) ∧
  (∀ (scr : pX) (w : pW) (x1 : Int32) (x2 : Int32) (s0 : Int32), p_ev scr 44 46 [.ref 0, .int x1, .int x2] [.int s0, .ref 1] w = p_bnd scr 44 46 49 [.ref 0, .int x1, .int x2] [] (p_ev none 31 0 [.ref 1, .int s0] [] w)) ∧
  (∀ (scr : pX) (w : pW) (x1 : Int32) (x2 : Int32), p_ev scr 44 49 [.ref 0, .int x1, .int x2] [] w = p_ev scr 44 50 [.ref 0, .int x1, .int x2] [.ref 0] w) ∧
  (∀ (scr : pX) (w : pW) (x1 : Int32) (x2 : Int32), p_ev scr 44 50 [.ref 0, .int x1, .int x2] [.ref 0] w = p_ev scr 44 53 [.ref 0, .int x1, .int x2] [.ref 4] w) ∧
  (∀ (scr : pX) (w : pW) (x1 : Int32) (x2 : Int32), p_ev scr 44 53 [.ref 0, .int x1, .int x2] [.ref 4] w = p_bnd scr 44 53 56 [.ref 0, .int x1, .int x2] [] (p_ev none 27 0 [.ref 4, p_U] [] w)) ∧
  (∀ (scr : pX) (w : pW) (x1 : Int32) (x2 : Int32), p_ev scr 44 56 [.ref 0, .int x1, .int x2] [] w = p_ev scr 44 57 [.ref 0, .int x1, .int x2] [.int x2] w) ∧
  (∀ (scr : pX) (w : pW) (x1 : Int32) (x2 : Int32) (s0 : Int32), p_ev scr 44 57 [.ref 0, .int x1, .int x2] [.int s0] w = some (.inl (some (.int s0)), w, 0)) :=
  ⟨fun _ _ _ => p_r (by decide +kernel : p_at 44 0 = some (.iload_n 1)) rfl,
  fun _ _ _ _ => p_r (by decide +kernel : p_at 44 1 = some (.iconst 4)) rfl,
  fun _ _ _ _ _ => p_rb2 (c := fun x y => decide (x = y)) (off := 31) (by decide +kernel : p_at 44 2 = some (.if_icmp .eq 31)) (by decide +kernel) rfl rfl rfl,
  fun _ _ _ => p_r (by decide +kernel : p_at 44 5 = some (.iload_n 1)) rfl,
  fun _ _ _ _ => p_r (by decide +kernel : p_at 44 6 = some (.bipush 8)) rfl,
  fun _ _ _ _ _ => p_rb2 (c := fun x y => decide (x = y)) (off := 25) (by decide +kernel : p_at 44 8 = some (.if_icmp .eq 25)) (by decide +kernel) rfl rfl rfl,
  fun _ _ _ => p_r (by decide +kernel : p_at 44 11 = some (.iload_n 1)) rfl,
  fun _ _ _ _ => p_r (by decide +kernel : p_at 44 12 = some (.bipush 16)) rfl,
  fun _ _ _ _ _ => p_rb2 (c := fun x y => decide (x = y)) (off := 19) (by decide +kernel : p_at 44 14 = some (.if_icmp .eq 19)) (by decide +kernel) rfl rfl rfl,
  fun _ _ _ => p_r (by decide +kernel : p_at 44 17 = some (.iload_n 1)) rfl,
  fun _ _ _ _ => p_r (by decide +kernel : p_at 44 18 = some (.bipush 32)) rfl,
  fun _ _ _ _ _ => p_rb2 (c := fun x y => decide (x = y)) (off := 13) (by decide +kernel : p_at 44 20 = some (.if_icmp .eq 13)) (by decide +kernel) rfl rfl rfl,
  fun _ _ _ => p_rnew (by decide +kernel : p_at 44 23 = some (.new 50)) (by decide +kernel) (by decide +kernel : p_at 44 27 = some (.ldc 52)) (by decide +kernel : p_at 44 29 = some (.invokespecial 54)) (by decide +kernel) (by decide +kernel) (by decide +kernel),
  fun _ _ _ => p_r (by decide +kernel : p_at 44 33 = some (.aload_n 0)) rfl,
  fun _ _ _ => p_rgf (f := some 1) (by decide +kernel : p_at 44 34 = some (.getfield 10)) (by decide +kernel : p_fld (p_own 44) 10 = some (4, 0)) (rfl : p_ob 0 = some (.inr (4, [some 1, some 2, some 4, some 3, some 5, some 6, some 7, some 19]))) rfl,
  fun _ _ _ => p_rcv (nl := 1) (by decide +kernel : p_at 44 37 = some (.invokevirtual 57)) (by decide +kernel : p_inv (p_own 44) 57 = some (1, 30, 1)) (by decide +kernel) (rfl : p_ob 1 = some (.inr (3, [some 18, none]))) rfl rfl (Nat.le_of_ble_eq_true rfl) (Nat.le_of_ble_eq_true rfl) (Nat.le_of_ble_eq_true rfl) rfl,
  fun _ _ _ _ => p_r (by decide +kernel : p_at 44 40 = some (.istore_n 2)) rfl,
  fun _ _ _ _ => p_r (by decide +kernel : p_at 44 41 = some (.aload_n 0)) rfl,
  fun _ _ _ _ => p_rgf (f := some 1) (by decide +kernel : p_at 44 42 = some (.getfield 10)) (by decide +kernel : p_fld (p_own 44) 10 = some (4, 0)) (rfl : p_ob 0 = some (.inr (4, [some 1, some 2, some 4, some 3, some 5, some 6, some 7, some 19]))) rfl,
  fun _ _ _ _ => p_r (by decide +kernel : p_at 44 45 = some (.iload_n 1)) rfl,
  fun _ _ _ _ _ => p_rcv (nl := 2) (by decide +kernel : p_at 44 46 = some (.invokevirtual 61)) (by decide +kernel : p_inv (p_own 44) 61 = some (1, 31, 2)) (by decide +kernel) (rfl : p_ob 1 = some (.inr (3, [some 18, none]))) rfl rfl (Nat.le_of_ble_eq_true rfl) (Nat.le_of_ble_eq_true rfl) (Nat.le_of_ble_eq_true rfl) rfl,
  fun _ _ _ _ => p_r (by decide +kernel : p_at 44 49 = some (.aload_n 0)) rfl,
  fun _ _ _ _ => p_rgf (f := some 4) (by decide +kernel : p_at 44 50 = some (.getfield 26)) (by decide +kernel : p_fld (p_own 44) 26 = some (4, 2)) (rfl : p_ob 0 = some (.inr (4, [some 1, some 2, some 4, some 3, some 5, some 6, some 7, some 19]))) rfl,
  fun _ _ _ _ => p_rcv (nl := 2) (by decide +kernel : p_at 44 53 = some (.invokevirtual 65)) (by decide +kernel : p_inv (p_own 44) 65 = some (1, 27, 1)) (by decide +kernel) (rfl : p_ob 4 = some (.inr (2, [some 11]))) rfl rfl (Nat.le_of_ble_eq_true rfl) (Nat.le_of_ble_eq_true rfl) (Nat.le_of_ble_eq_true rfl) rfl,
  fun _ _ _ _ => p_r (by decide +kernel : p_at 44 56 = some (.iload_n 2)) rfl,
  fun _ _ _ _ _ => p_riret (by decide +kernel : p_at 44 57 = some (.ireturn)) (by decide +kernel)⟩
-- 45: setSample
theorem M45 :
  (∀ (scr : pX) (w : pW) (x1 : Int32) (x2 : Int32), p_ev scr 45 0 [.ref 0, .int x1, .int x2, p_U, p_U] [] w = p_ev scr 45 1 [.ref 0, .int x1, .int x2, p_U, p_U] [.ref 0] w) ∧
  (∀ (scr : pX) (w : pW) (x1 : Int32) (x2 : Int32), p_ev scr 45 1 [.ref 0, .int x1, .int x2, p_U, p_U] [.ref 0] w = p_ev scr 45 2 [.ref 0, .int x1, .int x2, p_U, p_U] [.int x1, .ref 0] w) ∧
  (∀ (scr : pX) (w : pW) (x1 : Int32) (x2 : Int32) (s0 : Int32), p_ev scr 45 2 [.ref 0, .int x1, .int x2, p_U, p_U] [.int s0, .ref 0] w = p_bnd scr 45 2 5 [.ref 0, .int x1, .int x2, p_U, p_U] [] (p_ev none 75 0 [.ref 0, .int s0] [] w)) ∧
  (∀ (scr : pX) (w : pW) (x1 : Int32) (x2 : Int32), p_ev scr 45 5 [.ref 0, .int x1, .int x2, p_U, p_U] [] w = p_ev scr 45 6 [.ref 0, .int x1, .int x2, p_U, p_U] [.int x2] w) ∧
  (∀ (scr : pX) (w : pW) (x1 : Int32) (x2 : Int32) (s0 : Int32), p_ev scr 45 6 [.ref 0, .int x1, .int x2, p_U, p_U] [.int s0] w = p_ev scr 45 9 [.ref 0, .int x1, .int x2, p_U, p_U] [.int (-1000 : Int32), .int s0] w) ∧
  (∀ (scr : pX) (w : pW) (x1 : Int32) (x2 : Int32) (s0 : Int32) (s1 : Int32), p_ev scr 45 9 [.ref 0, .int x1, .int x2, p_U, p_U] [.int s0, .int s1] w = if s1 < s0 then p_ev scr 45 19 [.ref 0, .int x1, .int x2, p_U, p_U] [] w else p_ev scr 45 12 [.ref 0, .int x1, .int x2, p_U, p_U] [] w) ∧
  (∀ (scr : pX) (w : pW) (x1 : Int32) (x2 : Int32), p_ev scr 45 12 [.ref 0, .int x1, .int x2, p_U, p_U] [] w = p_ev scr 45 13 [.ref 0, .int x1, .int x2, p_U, p_U] [.int x2] w) ∧
  (∀ (scr : pX) (w : pW) (x1 : Int32) (x2 : Int32) (s0 : Int32), p_ev scr 45 13 [.ref 0, .int x1, .int x2, p_U, p_U] [.int s0] w = p_ev scr 45 16 [.ref 0, .int x1, .int x2, p_U, p_U] [.int (nI 1000), .int s0] w) ∧
  (∀ (scr : pX) (w : pW) (x1 : Int32) (x2 : Int32) (s0 : Int32) (s1 : Int32), p_ev scr 45 16 [.ref 0, .int x1, .int x2, p_U, p_U] [.int s0, .int s1] w = if s1 ≤ s0 then p_ev scr 45 29 [.ref 0, .int x1, .int x2, p_U, p_U] [] w else p_ev scr 45 19 [.ref 0, .int x1, .int x2, p_U, p_U] [] w) ∧
  (∀ (scr : pX) (w : pW) (x1 : Int32) (x2 : Int32), p_ev scr 45 19 [.ref 0, .int x1, .int x2, p_U, p_U] [] w = some (.inr (.inl 0), w, 1)) ∧
  (∀ (scr : pX) (w : pW) (x1 : Int32) (x2 : Int32), p_ev scr 45 29 [.ref 0, .int x1, .int x2, p_U, p_U] [] w = p_ev scr 45 30 [.ref 0, .int x1, .int x2, p_U, p_U] [.ref 0] w) ∧
  (∀ (scr : pX) (w : pW) (x1 : Int32) (x2 : Int32), p_ev scr 45 30 [.ref 0, .int x1, .int x2, p_U, p_U] [.ref 0] w = p_bnd scr 45 30 33 [.ref 0, .int x1, .int x2, p_U, p_U] [] (p_ev none 73 0 [.ref 0] [] w)) ∧
  (∀ (scr : pX) (w : pW) (x1 : Int32) (x2 : Int32), p_ev scr 45 33 [.ref 0, .int x1, .int x2, p_U, p_U] [] w = p_ev scr 45 34 [.ref 0, .int x1, .int x2, p_U, p_U] [.ref 0] w) ∧
  (∀ (scr : pX) (w : pW) (x1 : Int32) (x2 : Int32), p_ev scr 45 34 [.ref 0, .int x1, .int x2, p_U, p_U] [.ref 0] w = p_ev scr 45 37 [.ref 0, .int x1, .int x2, p_U, p_U] [.ref 4] w) ∧
  (∀ (scr : pX) (w : pW) (x1 : Int32) (x2 : Int32), p_ev scr 45 37 [.ref 0, .int x1, .int x2, p_U, p_U] [.ref 4] w = p_ev scr 45 38 [.ref 0, .int x1, .int x2, p_U, p_U] [.int x1, .ref 4] w) ∧
  (∀ (scr : pX) (w : pW) (x1 : Int32) (x2 : Int32) (s0 : Int32), p_ev scr 45 38 [.ref 0, .int x1, .int x2, p_U, p_U] [.int s0, .ref 4] w = p_bnd scr 45 38 41 [.ref 0, .int x1, .int x2, p_U, p_U] [] (p_ev none 24 0 [.ref 4, .int s0] [] w)) ∧
  (∀ (scr : pX) (w : pW) (x1 : Int32) (x2 : Int32) (t0 : Int64), p_ev scr 45 41 [.ref 0, .int x1, .int x2, p_U, p_U] [.long t0] w = p_ev scr 45 42 [.ref 0, .int x1, .int x2, .long t0, p_U] [] w) ∧
  (∀ (scr : pX) (w : pW) (x1 : Int32) (x2 : Int32) (y3 : Int64), p_ev scr 45 42 [.ref 0, .int x1, .int x2, .long y3, p_U] [] w = p_ev scr 45 43 [.ref 0, .int x1, .int x2, .long y3, p_U] [.ref 0] w) ∧
  (∀ (scr : pX) (w : pW) (x1 : Int32) (x2 : Int32) (y3 : Int64), p_ev scr 45 43 [.ref 0, .int x1, .int x2, .long y3, p_U] [.ref 0] w = p_ev scr 45 46 [.ref 0, .int x1, .int x2, .long y3, p_U] [.ref 4] w) ∧
  (∀ (scr : pX) (w : pW) (x1 : Int32) (x2 : Int32) (y3 : Int64), p_ev scr 45 46 [.ref 0, .int x1, .int x2, .long y3, p_U] [.ref 4] w = p_ev scr 45 47 [.ref 0, .int x1, .int x2, .long y3, p_U] [.int x1, .ref 4] w) ∧
  (∀ (scr : pX) (w : pW) (x1 : Int32) (x2 : Int32) (y3 : Int64) (s0 : Int32), p_ev scr 45 47 [.ref 0, .int x1, .int x2, .long y3, p_U] [.int s0, .ref 4] w = p_ev scr 45 48 [.ref 0, .int x1, .int x2, .long y3, p_U] [.int x2, .int s0, .ref 4] w) ∧
  (∀ (scr : pX) (w : pW) (x1 : Int32) (x2 : Int32) (y3 : Int64) (s0 : Int32) (s1 : Int32), p_ev scr 45 48 [.ref 0, .int x1, .int x2, .long y3, p_U] [.int s0, .int s1, .ref 4] w = p_ev scr 45 49 [.ref 0, .int x1, .int x2, .long y3, p_U] [.long s0.toInt64, .int s1, .ref 4] w) ∧
  (∀ (scr : pX) (w : pW) (x1 : Int32) (x2 : Int32) (y3 : Int64) (t0 : Int64) (s1 : Int32), p_ev scr 45 49 [.ref 0, .int x1, .int x2, .long y3, p_U] [.long t0, .int s1, .ref 4] w = p_bnd scr 45 49 52 [.ref 0, .int x1, .int x2, .long y3, p_U] [] (p_ev none 25 0 [.ref 4, .int s1, .long t0, p_U] [] w)) ∧
  (∀ (scr : pX) (w : pW) (x1 : Int32) (x2 : Int32) (y3 : Int64), p_ev scr 45 52 [.ref 0, .int x1, .int x2, .long y3, p_U] [] w = p_ev scr 45 53 [.ref 0, .int x1, .int x2, .long y3, p_U] [.long y3] w) ∧
  (∀ (scr : pX) (w : pW) (x1 : Int32) (x2 : Int32) (y3 : Int64) (t0 : Int64), p_ev scr 45 53 [.ref 0, .int x1, .int x2, .long y3, p_U] [.long t0] w = some (.inl (some (.long t0)), w, 0)) :=
  ⟨fun _ _ _ _ => p_r (by decide +kernel : p_at 45 0 = some (.aload_n 0)) rfl,
  fun _ _ _ _ => p_r (by decide +kernel : p_at 45 1 = some (.iload_n 1)) rfl,
  fun _ _ _ _ _ => p_rcv (nl := 2) (by decide +kernel : p_at 45 2 = some (.invokevirtual 68)) (by decide +kernel : p_inv (p_own 45) 68 = some (1, 75, 2)) (by decide +kernel) (rfl : p_ob 0 = some (.inr (4, [some 1, some 2, some 4, some 3, some 5, some 6, some 7, some 19]))) rfl rfl (Nat.le_of_ble_eq_true rfl) (Nat.le_of_ble_eq_true rfl) (Nat.le_of_ble_eq_true rfl) rfl,
  fun _ _ _ _ => p_r (by decide +kernel : p_at 45 5 = some (.iload_n 2)) rfl,
  fun _ _ _ _ _ => p_r (by decide +kernel : p_at 45 6 = some (.sipush (-1000))) rfl,
  fun _ _ _ _ _ _ => p_rb2 (c := fun x y => decide (x < y)) (off := 10) (by decide +kernel : p_at 45 9 = some (.if_icmp .lt 10)) (by decide +kernel) rfl rfl rfl,
  fun _ _ _ _ => p_r (by decide +kernel : p_at 45 12 = some (.iload_n 2)) rfl,
  fun _ _ _ _ _ => p_r (by decide +kernel : p_at 45 13 = some (.sipush 1000)) rfl,
  fun _ _ _ _ _ _ => p_rb2 (c := fun x y => decide (x ≤ y)) (off := 13) (by decide +kernel : p_at 45 16 = some (.if_icmp .le 13)) (by decide +kernel) rfl rfl rfl,
  fun _ _ _ _ => p_rnew (by decide +kernel : p_at 45 19 = some (.new 50)) (by decide +kernel) (by decide +kernel : p_at 45 23 = some (.ldc 71)) (by decide +kernel : p_at 45 25 = some (.invokespecial 54)) (by decide +kernel) (by decide +kernel) (by decide +kernel),
  fun _ _ _ _ => p_r (by decide +kernel : p_at 45 29 = some (.aload_n 0)) rfl,
  fun _ _ _ _ => p_rcv (nl := 1) (by decide +kernel : p_at 45 30 = some (.invokevirtual 73)) (by decide +kernel : p_inv (p_own 45) 73 = some (1, 73, 1)) (by decide +kernel) (rfl : p_ob 0 = some (.inr (4, [some 1, some 2, some 4, some 3, some 5, some 6, some 7, some 19]))) rfl rfl (Nat.le_of_ble_eq_true rfl) (Nat.le_of_ble_eq_true rfl) (Nat.le_of_ble_eq_true rfl) rfl,
  fun _ _ _ _ => p_r (by decide +kernel : p_at 45 33 = some (.aload_n 0)) rfl,
  fun _ _ _ _ => p_rgf (f := some 4) (by decide +kernel : p_at 45 34 = some (.getfield 26)) (by decide +kernel : p_fld (p_own 45) 26 = some (4, 2)) (rfl : p_ob 0 = some (.inr (4, [some 1, some 2, some 4, some 3, some 5, some 6, some 7, some 19]))) rfl,
  fun _ _ _ _ => p_r (by decide +kernel : p_at 45 37 = some (.iload_n 1)) rfl,
  fun _ _ _ _ _ => p_rcv (nl := 2) (by decide +kernel : p_at 45 38 = some (.invokevirtual 76)) (by decide +kernel : p_inv (p_own 45) 76 = some (1, 24, 2)) (by decide +kernel) (rfl : p_ob 4 = some (.inr (2, [some 11]))) rfl rfl (Nat.le_of_ble_eq_true rfl) (Nat.le_of_ble_eq_true rfl) (Nat.le_of_ble_eq_true rfl) rfl,
  fun _ _ _ _ _ => p_r (by decide +kernel : p_at 45 41 = some (.lstore_n 3)) rfl,
  fun _ _ _ _ _ => p_r (by decide +kernel : p_at 45 42 = some (.aload_n 0)) rfl,
  fun _ _ _ _ _ => p_rgf (f := some 4) (by decide +kernel : p_at 45 43 = some (.getfield 26)) (by decide +kernel : p_fld (p_own 45) 26 = some (4, 2)) (rfl : p_ob 0 = some (.inr (4, [some 1, some 2, some 4, some 3, some 5, some 6, some 7, some 19]))) rfl,
  fun _ _ _ _ _ => p_r (by decide +kernel : p_at 45 46 = some (.iload_n 1)) rfl,
  fun _ _ _ _ _ _ => p_r (by decide +kernel : p_at 45 47 = some (.iload_n 2)) rfl,
  fun _ _ _ _ _ _ _ => p_r (by decide +kernel : p_at 45 48 = some (.i2l)) rfl,
  fun _ _ _ _ _ _ _ => p_rcv (nl := 4) (by decide +kernel : p_at 45 49 = some (.invokevirtual 80)) (by decide +kernel : p_inv (p_own 45) 80 = some (1, 25, 3)) (by decide +kernel) (rfl : p_ob 4 = some (.inr (2, [some 11]))) rfl rfl (Nat.le_of_ble_eq_true rfl) (Nat.le_of_ble_eq_true rfl) (Nat.le_of_ble_eq_true rfl) rfl,
  fun _ _ _ _ _ => p_r (by decide +kernel : p_at 45 52 = some (.lload_n 3)) rfl,
  fun _ _ _ _ _ _ => p_rlret (by decide +kernel : p_at 45 53 = some (.lreturn)) (by decide +kernel)⟩
-- 46: sample
theorem M46 :
  (∀ (scr : pX) (w : pW) (x1 : Int32), p_ev scr 46 0 [.ref 0, .int x1] [] w = p_ev scr 46 1 [.ref 0, .int x1] [.ref 0] w) ∧
  (∀ (scr : pX) (w : pW) (x1 : Int32), p_ev scr 46 1 [.ref 0, .int x1] [.ref 0] w = p_ev scr 46 2 [.ref 0, .int x1] [.int x1, .ref 0] w) ∧
  (∀ (scr : pX) (w : pW) (x1 : Int32) (s0 : Int32), p_ev scr 46 2 [.ref 0, .int x1] [.int s0, .ref 0] w = p_bnd scr 46 2 5 [.ref 0, .int x1] [] (p_ev none 75 0 [.ref 0, .int s0] [] w)) ∧
  (∀ (scr : pX) (w : pW) (x1 : Int32), p_ev scr 46 5 [.ref 0, .int x1] [] w = p_ev scr 46 6 [.ref 0, .int x1] [.ref 0] w) ∧
  (∀ (scr : pX) (w : pW) (x1 : Int32), p_ev scr 46 6 [.ref 0, .int x1] [.ref 0] w = p_bnd scr 46 6 9 [.ref 0, .int x1] [] (p_ev none 87 0 [.ref 0] [] w)) ∧
  (∀ (scr : pX) (w : pW) (x1 : Int32), p_ev scr 46 9 [.ref 0, .int x1] [] w = p_ev scr 46 10 [.ref 0, .int x1] [.ref 0] w) ∧
  (∀ (scr : pX) (w : pW) (x1 : Int32), p_ev scr 46 10 [.ref 0, .int x1] [.ref 0] w = p_ev scr 46 13 [.ref 0, .int x1] [.ref 5] w) ∧
  (∀ (scr : pX) (w : pW) (x1 : Int32), p_ev scr 46 13 [.ref 0, .int x1] [.ref 5] w = p_ev scr 46 14 [.ref 0, .int x1] [.int x1, .ref 5] w) ∧
  (∀ (scr : pX) (w : pW) (x1 : Int32) (s0 : Int32), p_ev scr 46 14 [.ref 0, .int x1] [.int s0, .ref 5] w = p_bnd scr 46 14 17 [.ref 0, .int x1] [] (p_ev none 24 0 [.ref 5, .int s0] [] w)) ∧
  (∀ (scr : pX) (w : pW) (x1 : Int32) (t0 : Int64), p_ev scr 46 17 [.ref 0, .int x1] [.long t0] w = some (.inl (some (.long t0)), w, 0)) :=
  ⟨fun _ _ _ => p_r (by decide +kernel : p_at 46 0 = some (.aload_n 0)) rfl,
  fun _ _ _ => p_r (by decide +kernel : p_at 46 1 = some (.iload_n 1)) rfl,
  fun _ _ _ _ => p_rcv (nl := 2) (by decide +kernel : p_at 46 2 = some (.invokevirtual 68)) (by decide +kernel : p_inv (p_own 46) 68 = some (1, 75, 2)) (by decide +kernel) (rfl : p_ob 0 = some (.inr (4, [some 1, some 2, some 4, some 3, some 5, some 6, some 7, some 19]))) rfl rfl (Nat.le_of_ble_eq_true rfl) (Nat.le_of_ble_eq_true rfl) (Nat.le_of_ble_eq_true rfl) rfl,
  fun _ _ _ => p_r (by decide +kernel : p_at 46 5 = some (.aload_n 0)) rfl,
  fun _ _ _ => p_rcv (nl := 1) (by decide +kernel : p_at 46 6 = some (.invokevirtual 84)) (by decide +kernel : p_inv (p_own 46) 84 = some (1, 87, 1)) (by decide +kernel) (rfl : p_ob 0 = some (.inr (4, [some 1, some 2, some 4, some 3, some 5, some 6, some 7, some 19]))) rfl rfl (Nat.le_of_ble_eq_true rfl) (Nat.le_of_ble_eq_true rfl) (Nat.le_of_ble_eq_true rfl) rfl,
  fun _ _ _ => p_r (by decide +kernel : p_at 46 9 = some (.aload_n 0)) rfl,
  fun _ _ _ => p_rgf (f := some 5) (by decide +kernel : p_at 46 10 = some (.getfield 37)) (by decide +kernel : p_fld (p_own 46) 37 = some (4, 4)) (rfl : p_ob 0 = some (.inr (4, [some 1, some 2, some 4, some 3, some 5, some 6, some 7, some 19]))) rfl,
  fun _ _ _ => p_r (by decide +kernel : p_at 46 13 = some (.iload_n 1)) rfl,
  fun _ _ _ _ => p_rcv (nl := 2) (by decide +kernel : p_at 46 14 = some (.invokevirtual 76)) (by decide +kernel : p_inv (p_own 46) 76 = some (1, 24, 2)) (by decide +kernel) (rfl : p_ob 5 = some (.inr (2, [some 12]))) rfl rfl (Nat.le_of_ble_eq_true rfl) (Nat.le_of_ble_eq_true rfl) (Nat.le_of_ble_eq_true rfl) rfl,
  fun _ _ _ _ => p_rlret (by decide +kernel : p_at 46 17 = some (.lreturn)) (by decide +kernel)⟩
-- 47: length
theorem M47 :
  (∀ (scr : pX) (w : pW), p_ev scr 47 0 [.ref 0] [] w = p_ev scr 47 1 [.ref 0] [.ref 0] w) ∧
  (∀ (scr : pX) (w : pW), p_ev scr 47 1 [.ref 0] [.ref 0] w = p_ev scr 47 4 [.ref 0] [.ref 1] w) ∧
  (∀ (scr : pX) (w : pW), p_ev scr 47 4 [.ref 0] [.ref 1] w = p_bnd scr 47 4 7 [.ref 0] [] (p_ev none 30 0 [.ref 1] [] w)) ∧
  (∀ (scr : pX) (w : pW) (s0 : Int32), p_ev scr 47 7 [.ref 0] [.int s0] w = some (.inl (some (.int s0)), w, 0)) :=
  ⟨fun _ _ => p_r (by decide +kernel : p_at 47 0 = some (.aload_n 0)) rfl,
  fun _ _ => p_rgf (f := some 1) (by decide +kernel : p_at 47 1 = some (.getfield 10)) (by decide +kernel : p_fld (p_own 47) 10 = some (4, 0)) (rfl : p_ob 0 = some (.inr (4, [some 1, some 2, some 4, some 3, some 5, some 6, some 7, some 19]))) rfl,
  fun _ _ => p_rcv (nl := 1) (by decide +kernel : p_at 47 4 = some (.invokevirtual 57)) (by decide +kernel : p_inv (p_own 47) 57 = some (1, 30, 1)) (by decide +kernel) (rfl : p_ob 1 = some (.inr (3, [some 18, none]))) rfl rfl (Nat.le_of_ble_eq_true rfl) (Nat.le_of_ble_eq_true rfl) (Nat.le_of_ble_eq_true rfl) rfl,
  fun _ _ _ => p_riret (by decide +kernel : p_at 47 7 = some (.ireturn)) (by decide +kernel)⟩
-- 48: setWavelet
theorem M48 :
  (∀ (scr : pX) (w : pW) (x1 : Int32), p_ev scr 48 0 [.ref 0, .int x1, p_U] [] w = p_ev scr 48 1 [.ref 0, .int x1, p_U] [.int x1] w) ∧
  (∀ (scr : pX) (w : pW) (x1 : Int32) (s0 : Int32), p_ev scr 48 1 [.ref 0, .int x1, p_U] [.int s0] w = if s0 < nI 0 then p_ev scr 48 9 [.ref 0, .int x1, p_U] [] w else p_ev scr 48 4 [.ref 0, .int x1, p_U] [] w) ∧
  (∀ (scr : pX) (w : pW) (x1 : Int32), p_ev scr 48 4 [.ref 0, .int x1, p_U] [] w = p_ev scr 48 5 [.ref 0, .int x1, p_U] [.int x1] w) ∧
  (∀ (scr : pX) (w : pW) (x1 : Int32) (s0 : Int32), p_ev scr 48 5 [.ref 0, .int x1, p_U] [.int s0] w = p_ev scr 48 6 [.ref 0, .int x1, p_U] [.int (nI 2), .int s0] w) ∧
  (∀ (scr : pX) (w : pW) (x1 : Int32) (s0 : Int32) (s1 : Int32), p_ev scr 48 6 [.ref 0, .int x1, p_U] [.int s0, .int s1] w = if s1 ≤ s0 then p_ev scr 48 19 [.ref 0, .int x1, p_U] [] w else p_ev scr 48 9 [.ref 0, .int x1, p_U] [] w) ∧
  (∀ (scr : pX) (w : pW) (x1 : Int32), p_ev scr 48 9 [.ref 0, .int x1, p_U] [] w = some (.inr (.inl 0), w, 1)) ∧
  (∀ (scr : pX) (w : pW) (x1 : Int32), p_ev scr 48 19 [.ref 0, .int x1, p_U] [] w = p_ev scr 48 20 [.ref 0, .int x1, p_U] [.ref 0] w) ∧
  (∀ (scr : pX) (w : pW) (x1 : Int32), p_ev scr 48 20 [.ref 0, .int x1, p_U] [.ref 0] w = p_bnd scr 48 20 23 [.ref 0, .int x1, p_U] [] (p_ev none 73 0 [.ref 0] [] w)) ∧
  (∀ (scr : pX) (w : pW) (x1 : Int32), p_ev scr 48 23 [.ref 0, .int x1, p_U] [] w = p_ev scr 48 24 [.ref 0, .int x1, p_U] [.ref 0] w) ∧
  (∀ (scr : pX) (w : pW) (x1 : Int32), p_ev scr 48 24 [.ref 0, .int x1, p_U] [.ref 0] w = p_ev scr 48 27 [.ref 0, .int x1, p_U] [.ref 2] w) ∧
  (∀ (scr : pX) (w : pW) (x1 : Int32), p_ev scr 48 27 [.ref 0, .int x1, p_U] [.ref 2] w = p_bnd scr 48 27 30 [.ref 0, .int x1, p_U] [] (p_ev none 15 0 [.ref 2] [] w)) ∧
  (∀ (scr : pX) (w : pW) (x1 : Int32) (s0 : Int32), p_ev scr 48 30 [.ref 0, .int x1, p_U] [.int s0] w = p_ev scr 48 31 [.ref 0, .int x1, .int s0] [] w) ∧
  (∀ (scr : pX) (w : pW) (x1 : Int32) (x2 : Int32), p_ev scr 48 31 [.ref 0, .int x1, .int x2] [] w = p_ev scr 48 32 [.ref 0, .int x1, .int x2] [.ref 0] w) ∧
  (∀ (scr : pX) (w : pW) (x1 : Int32) (x2 : Int32), p_ev scr 48 32 [.ref 0, .int x1, .int x2] [.ref 0] w = p_ev scr 48 35 [.ref 0, .int x1, .int x2] [.ref 2] w) ∧
  (∀ (scr : pX) (w : pW) (x1 : Int32) (x2 : Int32), p_ev scr 48 35 [.ref 0, .int x1, .int x2] [.ref 2] w = p_ev scr 48 36 [.ref 0, .int x1, .int x2] [.int x1, .ref 2] w) ∧
  (∀ (scr : pX) (w : pW) (x1 : Int32) (x2 : Int32) (s0 : Int32), p_ev scr 48 36 [.ref 0, .int x1, .int x2] [.int s0, .ref 2] w = p_bnd scr 48 36 39 [.ref 0, .int x1, .int x2] [] (p_ev none 16 0 [.ref 2, .int s0] [] w)) ∧
  (∀ (scr : pX) (w : pW) (x1 : Int32) (x2 : Int32), p_ev scr 48 39 [.ref 0, .int x1, .int x2] [] w = p_ev scr 48 40 [.ref 0, .int x1, .int x2] [.int x2] w) ∧
  (∀ (scr : pX) (w : pW) (x1 : Int32) (x2 : Int32) (s0 : Int32), p_ev scr 48 40 [.ref 0, .int x1, .int x2] [.int s0] w = some (.inl (some (.int s0)), w, 0)) :=
  ⟨fun _ _ _ => p_r (by decide +kernel : p_at 48 0 = some (.iload_n 1)) rfl,
  fun _ _ _ _ => p_rb1 (c := fun x => decide (x < 0)) (off := 8) (by decide +kernel : p_at 48 1 = some (.ifCond .lt 8)) (by decide +kernel) rfl rfl rfl,
  fun _ _ _ => p_r (by decide +kernel : p_at 48 4 = some (.iload_n 1)) rfl,
  fun _ _ _ _ => p_r (by decide +kernel : p_at 48 5 = some (.iconst 2)) rfl,
  fun _ _ _ _ _ => p_rb2 (c := fun x y => decide (x ≤ y)) (off := 13) (by decide +kernel : p_at 48 6 = some (.if_icmp .le 13)) (by decide +kernel) rfl rfl rfl,
  fun _ _ _ => p_rnew (by decide +kernel : p_at 48 9 = some (.new 50)) (by decide +kernel) (by decide +kernel : p_at 48 13 = some (.ldc 87)) (by decide +kernel : p_at 48 15 = some (.invokespecial 54)) (by decide +kernel) (by decide +kernel) (by decide +kernel),
  fun _ _ _ => p_r (by decide +kernel : p_at 48 19 = some (.aload_n 0)) rfl,
  fun _ _ _ => p_rcv (nl := 1) (by decide +kernel : p_at 48 20 = some (.invokevirtual 73)) (by decide +kernel : p_inv (p_own 48) 73 = some (1, 73, 1)) (by decide +kernel) (rfl : p_ob 0 = some (.inr (4, [some 1, some 2, some 4, some 3, some 5, some 6, some 7, some 19]))) rfl rfl (Nat.le_of_ble_eq_true rfl) (Nat.le_of_ble_eq_true rfl) (Nat.le_of_ble_eq_true rfl) rfl,
  fun _ _ _ => p_r (by decide +kernel : p_at 48 23 = some (.aload_n 0)) rfl,
  fun _ _ _ => p_rgf (f := some 2) (by decide +kernel : p_at 48 24 = some (.getfield 19)) (by decide +kernel : p_fld (p_own 48) 19 = some (4, 1)) (rfl : p_ob 0 = some (.inr (4, [some 1, some 2, some 4, some 3, some 5, some 6, some 7, some 19]))) rfl,
  fun _ _ _ => p_rcv (nl := 1) (by decide +kernel : p_at 48 27 = some (.invokevirtual 89)) (by decide +kernel : p_inv (p_own 48) 89 = some (1, 15, 1)) (by decide +kernel) (rfl : p_ob 2 = some (.inr (1, [some 8, none]))) rfl rfl (Nat.le_of_ble_eq_true rfl) (Nat.le_of_ble_eq_true rfl) (Nat.le_of_ble_eq_true rfl) rfl,
  fun _ _ _ _ => p_r (by decide +kernel : p_at 48 30 = some (.istore_n 2)) rfl,
  fun _ _ _ _ => p_r (by decide +kernel : p_at 48 31 = some (.aload_n 0)) rfl,
  fun _ _ _ _ => p_rgf (f := some 2) (by decide +kernel : p_at 48 32 = some (.getfield 19)) (by decide +kernel : p_fld (p_own 48) 19 = some (4, 1)) (rfl : p_ob 0 = some (.inr (4, [some 1, some 2, some 4, some 3, some 5, some 6, some 7, some 19]))) rfl,
  fun _ _ _ _ => p_r (by decide +kernel : p_at 48 35 = some (.iload_n 1)) rfl,
  fun _ _ _ _ _ => p_rcv (nl := 2) (by decide +kernel : p_at 48 36 = some (.invokevirtual 92)) (by decide +kernel : p_inv (p_own 48) 92 = some (1, 16, 2)) (by decide +kernel) (rfl : p_ob 2 = some (.inr (1, [some 8, none]))) rfl rfl (Nat.le_of_ble_eq_true rfl) (Nat.le_of_ble_eq_true rfl) (Nat.le_of_ble_eq_true rfl) rfl,
  fun _ _ _ _ => p_r (by decide +kernel : p_at 48 39 = some (.iload_n 2)) rfl,
  fun _ _ _ _ _ => p_riret (by decide +kernel : p_at 48 40 = some (.ireturn)) (by decide +kernel)⟩
-- 49: split
theorem M49 :
  (∀ (scr : pX) (w : pW) (x1 : Int32), p_ev scr 49 0 [.ref 0, .int x1] [] w = p_ev scr 49 1 [.ref 0, .int x1] [.ref 0] w) ∧
  (∀ (scr : pX) (w : pW) (x1 : Int32), p_ev scr 49 1 [.ref 0, .int x1] [.ref 0] w = p_ev scr 49 2 [.ref 0, .int x1] [.int x1, .ref 0] w) ∧
  (∀ (scr : pX) (w : pW) (x1 : Int32) (s0 : Int32), p_ev scr 49 2 [.ref 0, .int x1] [.int s0, .ref 0] w = p_bnd scr 49 2 5 [.ref 0, .int x1] [] (p_ev none 71 0 [.ref 0, .int s0] [] w)) ∧
  (∀ (scr : pX) (w : pW) (x1 : Int32), p_ev scr 49 5 [.ref 0, .int x1] [] w = p_ev scr 49 6 [.ref 0, .int x1] [.ref 0] w) ∧
  (∀ (scr : pX) (w : pW) (x1 : Int32), p_ev scr 49 6 [.ref 0, .int x1] [.ref 0] w = p_ev scr 49 9 [.ref 0, .int x1] [.ref 1] w) ∧
  (∀ (scr : pX) (w : pW) (x1 : Int32), p_ev scr 49 9 [.ref 0, .int x1] [.ref 1] w = p_ev scr 49 10 [.ref 0, .int x1] [.int x1, .ref 1] w) ∧
  (∀ (scr : pX) (w : pW) (x1 : Int32) (s0 : Int32), p_ev scr 49 10 [.ref 0, .int x1] [.int s0, .ref 1] w = p_bnd scr 49 10 13 [.ref 0, .int x1] [] (p_ev none 34 0 [.ref 1, .int s0] [] w)) ∧
  (∀ (scr : pX) (w : pW) (x1 : Int32) (s0 : Int32), p_ev scr 49 13 [.ref 0, .int x1] [.int s0] w = if ¬ s0 = nI 0 then p_ev scr 49 26 [.ref 0, .int x1] [] w else p_ev scr 49 16 [.ref 0, .int x1] [] w) ∧
  (∀ (scr : pX) (w : pW) (x1 : Int32), p_ev scr 49 16 [.ref 0, .int x1] [] w = some (.inr (.inl 1), w, 1)) ∧
  (∀ (scr : pX) (w : pW) (x1 : Int32), p_ev scr 49 26 [.ref 0, .int x1] [] w = p_ev scr 49 27 [.ref 0, .int x1] [.ref 0] w) ∧
  (∀ (scr : pX) (w : pW) (x1 : Int32), p_ev scr 49 27 [.ref 0, .int x1] [.ref 0] w = p_ev scr 49 28 [.ref 0, .int x1] [.int x1, .ref 0] w) ∧
  (∀ (scr : pX) (w : pW) (x1 : Int32) (s0 : Int32), p_ev scr 49 28 [.ref 0, .int x1] [.int s0, .ref 0] w = p_bnd scr 49 28 31 [.ref 0, .int x1] [] (p_ev none 80 0 [.ref 0, .int s0] [] w)) ∧
  (∀ (scr : pX) (w : pW) (x1 : Int32), p_ev scr 49 31 [.ref 0, .int x1] [] w = p_ev scr 49 32 [.ref 0, .int x1] [.ref 0] w) ∧
  (∀ (scr : pX) (w : pW) (x1 : Int32), p_ev scr 49 32 [.ref 0, .int x1] [.ref 0] w = p_ev scr 49 35 [.ref 0, .int x1] [.ref 1] w) ∧
  (∀ (scr : pX) (w : pW) (x1 : Int32), p_ev scr 49 35 [.ref 0, .int x1] [.ref 1] w = p_ev scr 49 36 [.ref 0, .int x1] [.int x1, .ref 1] w) ∧
  (∀ (scr : pX) (w : pW) (x1 : Int32) (s0 : Int32), p_ev scr 49 36 [.ref 0, .int x1] [.int s0, .ref 1] w = p_bnd scr 49 36 39 [.ref 0, .int x1] [] (p_ev none 39 0 [.ref 1, .int s0] [] w)) ∧
  (∀ (scr : pX) (w : pW) (x1 : Int32) (s0 : Int32), p_ev scr 49 39 [.ref 0, .int x1] [.int s0] w = p_ev scr 49 40 [.ref 0, .int x1] [.int (nI 2), .int s0] w) ∧
  (∀ (scr : pX) (w : pW) (x1 : Int32) (s0 : Int32) (s1 : Int32), ¬ s0 = 0 → p_ev scr 49 40 [.ref 0, .int x1] [.int s0, .int s1] w = p_ev scr 49 41 [.ref 0, .int x1] [.int (s1 / s0)] w) ∧
  (∀ (scr : pX) (w : pW) (x1 : Int32) (s0 : Int32), p_ev scr 49 41 [.ref 0, .int x1] [.int s0] w = some (.inl (some (.int s0)), w, 0)) :=
  ⟨fun _ _ _ => p_r (by decide +kernel : p_at 49 0 = some (.aload_n 0)) rfl,
  fun _ _ _ => p_r (by decide +kernel : p_at 49 1 = some (.iload_n 1)) rfl,
  fun _ _ _ _ => p_rcv (nl := 2) (by decide +kernel : p_at 49 2 = some (.invokevirtual 95)) (by decide +kernel : p_inv (p_own 49) 95 = some (1, 71, 2)) (by decide +kernel) (rfl : p_ob 0 = some (.inr (4, [some 1, some 2, some 4, some 3, some 5, some 6, some 7, some 19]))) rfl rfl (Nat.le_of_ble_eq_true rfl) (Nat.le_of_ble_eq_true rfl) (Nat.le_of_ble_eq_true rfl) rfl,
  fun _ _ _ => p_r (by decide +kernel : p_at 49 5 = some (.aload_n 0)) rfl,
  fun _ _ _ => p_rgf (f := some 1) (by decide +kernel : p_at 49 6 = some (.getfield 10)) (by decide +kernel : p_fld (p_own 49) 10 = some (4, 0)) (rfl : p_ob 0 = some (.inr (4, [some 1, some 2, some 4, some 3, some 5, some 6, some 7, some 19]))) rfl,
  fun _ _ _ => p_r (by decide +kernel : p_at 49 9 = some (.iload_n 1)) rfl,
  fun _ _ _ _ => p_rcv (nl := 2) (by decide +kernel : p_at 49 10 = some (.invokevirtual 98)) (by decide +kernel : p_inv (p_own 49) 98 = some (1, 34, 2)) (by decide +kernel) (rfl : p_ob 1 = some (.inr (3, [some 18, none]))) rfl rfl (Nat.le_of_ble_eq_true rfl) (Nat.le_of_ble_eq_true rfl) (Nat.le_of_ble_eq_true rfl) rfl,
  fun _ _ _ _ => p_rb1 (c := fun x => decide (¬ x = 0)) (off := 13) (by decide +kernel : p_at 49 13 = some (.ifCond .ne 13)) (by decide +kernel) rfl rfl rfl,
  fun _ _ _ => p_rnew (by decide +kernel : p_at 49 16 = some (.new 102)) (by decide +kernel) (by decide +kernel : p_at 49 20 = some (.ldc 104)) (by decide +kernel : p_at 49 22 = some (.invokespecial 106)) (by decide +kernel) (by decide +kernel) (by decide +kernel),
  fun _ _ _ => p_r (by decide +kernel : p_at 49 26 = some (.aload_n 0)) rfl,
  fun _ _ _ => p_r (by decide +kernel : p_at 49 27 = some (.iload_n 1)) rfl,
  fun _ _ _ _ => p_rcv (nl := 2) (by decide +kernel : p_at 49 28 = some (.invokevirtual 107)) (by decide +kernel : p_inv (p_own 49) 107 = some (1, 80, 2)) (by decide +kernel) (rfl : p_ob 0 = some (.inr (4, [some 1, some 2, some 4, some 3, some 5, some 6, some 7, some 19]))) rfl rfl (Nat.le_of_ble_eq_true rfl) (Nat.le_of_ble_eq_true rfl) (Nat.le_of_ble_eq_true rfl) rfl,
  fun _ _ _ => p_r (by decide +kernel : p_at 49 31 = some (.aload_n 0)) rfl,
  fun _ _ _ => p_rgf (f := some 1) (by decide +kernel : p_at 49 32 = some (.getfield 10)) (by decide +kernel : p_fld (p_own 49) 10 = some (4, 0)) (rfl : p_ob 0 = some (.inr (4, [some 1, some 2, some 4, some 3, some 5, some 6, some 7, some 19]))) rfl,
  fun _ _ _ => p_r (by decide +kernel : p_at 49 35 = some (.iload_n 1)) rfl,
  fun _ _ _ _ => p_rcv (nl := 2) (by decide +kernel : p_at 49 36 = some (.invokevirtual 110)) (by decide +kernel : p_inv (p_own 49) 110 = some (1, 39, 2)) (by decide +kernel) (rfl : p_ob 1 = some (.inr (3, [some 18, none]))) rfl rfl (Nat.le_of_ble_eq_true rfl) (Nat.le_of_ble_eq_true rfl) (Nat.le_of_ble_eq_true rfl) rfl,
  fun _ _ _ _ => p_r (by decide +kernel : p_at 49 39 = some (.iconst 2)) rfl,
  fun _ _ _ _ _ hp => p_ridiv (by decide +kernel : p_at 49 40 = some (.idiv)) hp,
  fun _ _ _ _ => p_riret (by decide +kernel : p_at 49 41 = some (.ireturn)) (by decide +kernel)⟩
-- 50: join
theorem M50 :
  (∀ (scr : pX) (w : pW) (x1 : Int32), p_ev scr 50 0 [.ref 0, .int x1] [] w = p_ev scr 50 1 [.ref 0, .int x1] [.ref 0] w) ∧
  (∀ (scr : pX) (w : pW) (x1 : Int32), p_ev scr 50 1 [.ref 0, .int x1] [.ref 0] w = p_ev scr 50 2 [.ref 0, .int x1] [.int x1, .ref 0] w) ∧
  (∀ (scr : pX) (w : pW) (x1 : Int32) (s0 : Int32), p_ev scr 50 2 [.ref 0, .int x1] [.int s0, .ref 0] w = p_bnd scr 50 2 5 [.ref 0, .int x1] [] (p_ev none 71 0 [.ref 0, .int s0] [] w)) ∧
  (∀ (scr : pX) (w : pW) (x1 : Int32), p_ev scr 50 5 [.ref 0, .int x1] [] w = p_ev scr 50 6 [.ref 0, .int x1] [.ref 0] w) ∧
  (∀ (scr : pX) (w : pW) (x1 : Int32), p_ev scr 50 6 [.ref 0, .int x1] [.ref 0] w = p_ev scr 50 9 [.ref 0, .int x1] [.ref 1] w) ∧
  (∀ (scr : pX) (w : pW) (x1 : Int32), p_ev scr 50 9 [.ref 0, .int x1] [.ref 1] w = p_ev scr 50 10 [.ref 0, .int x1] [.int x1, .ref 1] w) ∧
  (∀ (scr : pX) (w : pW) (x1 : Int32) (s0 : Int32), p_ev scr 50 10 [.ref 0, .int x1] [.int s0, .ref 1] w = p_bnd scr 50 10 13 [.ref 0, .int x1] [] (p_ev none 33 0 [.ref 1, .int s0] [] w)) ∧
  (∀ (scr : pX) (w : pW) (x1 : Int32) (s0 : Int32), p_ev scr 50 13 [.ref 0, .int x1] [.int s0] w = if ¬ s0 = nI 0 then p_ev scr 50 26 [.ref 0, .int x1] [] w else p_ev scr 50 16 [.ref 0, .int x1] [] w) ∧
  (∀ (scr : pX) (w : pW) (x1 : Int32), p_ev scr 50 16 [.ref 0, .int x1] [] w = some (.inr (.inl 1), w, 1)) ∧
  (∀ (scr : pX) (w : pW) (x1 : Int32), p_ev scr 50 26 [.ref 0, .int x1] [] w = p_ev scr 50 27 [.ref 0, .int x1] [.ref 0] w) ∧
  (∀ (scr : pX) (w : pW) (x1 : Int32), p_ev scr 50 27 [.ref 0, .int x1] [.ref 0] w = p_ev scr 50 28 [.ref 0, .int x1] [.int x1, .ref 0] w) ∧
  (∀ (scr : pX) (w : pW) (x1 : Int32) (s0 : Int32), p_ev scr 50 28 [.ref 0, .int x1] [.int s0, .ref 0] w = p_bnd scr 50 28 31 [.ref 0, .int x1] [] (p_ev none 81 0 [.ref 0, .int s0, p_U] [] w)) ∧
  (∀ (scr : pX) (w : pW) (x1 : Int32) (s0 : Int32), p_ev scr 50 31 [.ref 0, .int x1] [.int s0] w = some (.inl (some (.int s0)), w, 0)) :=
  ⟨fun _ _ _ => p_r (by decide +kernel : p_at 50 0 = some (.aload_n 0)) rfl,
  fun _ _ _ => p_r (by decide +kernel : p_at 50 1 = some (.iload_n 1)) rfl,
  fun _ _ _ _ => p_rcv (nl := 2) (by decide +kernel : p_at 50 2 = some (.invokevirtual 95)) (by decide +kernel : p_inv (p_own 50) 95 = some (1, 71, 2)) (by decide +kernel) (rfl : p_ob 0 = some (.inr (4, [some 1, some 2, some 4, some 3, some 5, some 6, some 7, some 19]))) rfl rfl (Nat.le_of_ble_eq_true rfl) (Nat.le_of_ble_eq_true rfl) (Nat.le_of_ble_eq_true rfl) rfl,
  fun _ _ _ => p_r (by decide +kernel : p_at 50 5 = some (.aload_n 0)) rfl,
  fun _ _ _ => p_rgf (f := some 1) (by decide +kernel : p_at 50 6 = some (.getfield 10)) (by decide +kernel : p_fld (p_own 50) 10 = some (4, 0)) (rfl : p_ob 0 = some (.inr (4, [some 1, some 2, some 4, some 3, some 5, some 6, some 7, some 19]))) rfl,
  fun _ _ _ => p_r (by decide +kernel : p_at 50 9 = some (.iload_n 1)) rfl,
  fun _ _ _ _ => p_rcv (nl := 2) (by decide +kernel : p_at 50 10 = some (.invokevirtual 114)) (by decide +kernel : p_inv (p_own 50) 114 = some (1, 33, 2)) (by decide +kernel) (rfl : p_ob 1 = some (.inr (3, [some 18, none]))) rfl rfl (Nat.le_of_ble_eq_true rfl) (Nat.le_of_ble_eq_true rfl) (Nat.le_of_ble_eq_true rfl) rfl,
  fun _ _ _ _ => p_rb1 (c := fun x => decide (¬ x = 0)) (off := 13) (by decide +kernel : p_at 50 13 = some (.ifCond .ne 13)) (by decide +kernel) rfl rfl rfl,
  fun _ _ _ => p_rnew (by decide +kernel : p_at 50 16 = some (.new 102)) (by decide +kernel) (by decide +kernel : p_at 50 20 = some (.ldc 117)) (by decide +kernel : p_at 50 22 = some (.invokespecial 106)) (by decide +kernel) (by decide +kernel) (by decide +kernel),
  fun _ _ _ => p_r (by decide +kernel : p_at 50 26 = some (.aload_n 0)) rfl,
  fun _ _ _ => p_r (by decide +kernel : p_at 50 27 = some (.iload_n 1)) rfl,
  fun _ _ _ _ => p_rcv (nl := 3) (by decide +kernel : p_at 50 28 = some (.invokevirtual 119)) (by decide +kernel : p_inv (p_own 50) 119 = some (1, 81, 2)) (by decide +kernel) (rfl : p_ob 0 = some (.inr (4, [some 1, some 2, some 4, some 3, some 5, some 6, some 7, some 19]))) rfl rfl (Nat.le_of_ble_eq_true rfl) (Nat.le_of_ble_eq_true rfl) (Nat.le_of_ble_eq_true rfl) rfl,
  fun _ _ _ _ => p_riret (by decide +kernel : p_at 50 31 = some (.ireturn)) (by decide +kernel)⟩
-- 51: isNode
theorem M51 :
  (∀ (scr : pX) (w : pW) (x1 : Int32), p_ev scr 51 0 [.ref 0, .int x1] [] w = p_ev scr 51 1 [.ref 0, .int x1] [.ref 0] w) ∧
  (∀ (scr : pX) (w : pW) (x1 : Int32), p_ev scr 51 1 [.ref 0, .int x1] [.ref 0] w = p_ev scr 51 4 [.ref 0, .int x1] [.ref 1] w) ∧
  (∀ (scr : pX) (w : pW) (x1 : Int32), p_ev scr 51 4 [.ref 0, .int x1] [.ref 1] w = p_ev scr 51 5 [.ref 0, .int x1] [.int x1, .ref 1] w) ∧
  (∀ (scr : pX) (w : pW) (x1 : Int32) (s0 : Int32), p_ev scr 51 5 [.ref 0, .int x1] [.int s0, .ref 1] w = p_bnd scr 51 5 8 [.ref 0, .int x1] [] (p_ev none 32 0 [.ref 1, .int s0] [] w)) ∧
  (∀ (scr : pX) (w : pW) (x1 : Int32) (s0 : Int32), narrow .boolean (.int s0) = .int s0 → p_ev scr 51 8 [.ref 0, .int x1] [.int s0] w = some (.inl (some (.int s0)), w, 0)) :=
  ⟨fun _ _ _ => p_r (by decide +kernel : p_at 51 0 = some (.aload_n 0)) rfl,
  fun _ _ _ => p_rgf (f := some 1) (by decide +kernel : p_at 51 1 = some (.getfield 10)) (by decide +kernel : p_fld (p_own 51) 10 = some (4, 0)) (rfl : p_ob 0 = some (.inr (4, [some 1, some 2, some 4, some 3, some 5, some 6, some 7, some 19]))) rfl,
  fun _ _ _ => p_r (by decide +kernel : p_at 51 4 = some (.iload_n 1)) rfl,
  fun _ _ _ _ => p_rcv (nl := 2) (by decide +kernel : p_at 51 5 = some (.invokevirtual 122)) (by decide +kernel : p_inv (p_own 51) 122 = some (1, 32, 2)) (by decide +kernel) (rfl : p_ob 1 = some (.inr (3, [some 18, none]))) rfl rfl (Nat.le_of_ble_eq_true rfl) (Nat.le_of_ble_eq_true rfl) (Nat.le_of_ble_eq_true rfl) rfl,
  fun _ _ _ _ hp => p_rzret (by decide +kernel : p_at 51 8 = some (.ireturn)) (by decide +kernel) hp⟩
-- 52: isLeaf
theorem M52 :
  (∀ (scr : pX) (w : pW) (x1 : Int32), p_ev scr 52 0 [.ref 0, .int x1] [] w = p_ev scr 52 1 [.ref 0, .int x1] [.ref 0] w) ∧
  (∀ (scr : pX) (w : pW) (x1 : Int32), p_ev scr 52 1 [.ref 0, .int x1] [.ref 0] w = p_ev scr 52 2 [.ref 0, .int x1] [.int x1, .ref 0] w) ∧
  (∀ (scr : pX) (w : pW) (x1 : Int32) (s0 : Int32), p_ev scr 52 2 [.ref 0, .int x1] [.int s0, .ref 0] w = p_bnd scr 52 2 5 [.ref 0, .int x1] [] (p_ev none 71 0 [.ref 0, .int s0] [] w)) ∧
  (∀ (scr : pX) (w : pW) (x1 : Int32), p_ev scr 52 5 [.ref 0, .int x1] [] w = p_ev scr 52 6 [.ref 0, .int x1] [.ref 0] w) ∧
  (∀ (scr : pX) (w : pW) (x1 : Int32), p_ev scr 52 6 [.ref 0, .int x1] [.ref 0] w = p_ev scr 52 9 [.ref 0, .int x1] [.ref 1] w) ∧
  (∀ (scr : pX) (w : pW) (x1 : Int32), p_ev scr 52 9 [.ref 0, .int x1] [.ref 1] w = p_ev scr 52 10 [.ref 0, .int x1] [.int x1, .ref 1] w) ∧
  (∀ (scr : pX) (w : pW) (x1 : Int32) (s0 : Int32), p_ev scr 52 10 [.ref 0, .int x1] [.int s0, .ref 1] w = p_bnd scr 52 10 13 [.ref 0, .int x1] [] (p_ev none 33 0 [.ref 1, .int s0] [] w)) ∧
  (∀ (scr : pX) (w : pW) (x1 : Int32) (s0 : Int32), p_ev scr 52 13 [.ref 0, .int x1] [.int s0] w = if ¬ s0 = nI 0 then p_ev scr 52 20 [.ref 0, .int x1] [] w else p_ev scr 52 16 [.ref 0, .int x1] [] w) ∧
  (∀ (scr : pX) (w : pW) (x1 : Int32), p_ev scr 52 16 [.ref 0, .int x1] [] w = p_ev scr 52 17 [.ref 0, .int x1] [.int (nI 1)] w) ∧
  (∀ (scr : pX) (w : pW) (x1 : Int32) (s0 : Int32), p_ev scr 52 17 [.ref 0, .int x1] [.int s0] w = p_ev scr 52 21 [.ref 0, .int x1] [.int s0] w) ∧
  (∀ (scr : pX) (w : pW) (x1 : Int32), p_ev scr 52 20 [.ref 0, .int x1] [] w = p_ev scr 52 21 [.ref 0, .int x1] [.int (nI 0)] w) ∧
  (∀ (scr : pX) (w : pW) (x1 : Int32) (s0 : Int32), narrow .boolean (.int s0) = .int s0 → p_ev scr 52 21 [.ref 0, .int x1] [.int s0] w = some (.inl (some (.int s0)), w, 0)) :=
  ⟨fun _ _ _ => p_r (by decide +kernel : p_at 52 0 = some (.aload_n 0)) rfl,
  fun _ _ _ => p_r (by decide +kernel : p_at 52 1 = some (.iload_n 1)) rfl,
  fun _ _ _ _ => p_rcv (nl := 2) (by decide +kernel : p_at 52 2 = some (.invokevirtual 95)) (by decide +kernel : p_inv (p_own 52) 95 = some (1, 71, 2)) (by decide +kernel) (rfl : p_ob 0 = some (.inr (4, [some 1, some 2, some 4, some 3, some 5, some 6, some 7, some 19]))) rfl rfl (Nat.le_of_ble_eq_true rfl) (Nat.le_of_ble_eq_true rfl) (Nat.le_of_ble_eq_true rfl) rfl,
  fun _ _ _ => p_r (by decide +kernel : p_at 52 5 = some (.aload_n 0)) rfl,
  fun _ _ _ => p_rgf (f := some 1) (by decide +kernel : p_at 52 6 = some (.getfield 10)) (by decide +kernel : p_fld (p_own 52) 10 = some (4, 0)) (rfl : p_ob 0 = some (.inr (4, [some 1, some 2, some 4, some 3, some 5, some 6, some 7, some 19]))) rfl,
  fun _ _ _ => p_r (by decide +kernel : p_at 52 9 = some (.iload_n 1)) rfl,
  fun _ _ _ _ => p_rcv (nl := 2) (by decide +kernel : p_at 52 10 = some (.invokevirtual 114)) (by decide +kernel : p_inv (p_own 52) 114 = some (1, 33, 2)) (by decide +kernel) (rfl : p_ob 1 = some (.inr (3, [some 18, none]))) rfl rfl (Nat.le_of_ble_eq_true rfl) (Nat.le_of_ble_eq_true rfl) (Nat.le_of_ble_eq_true rfl) rfl,
  fun _ _ _ _ => p_rb1 (c := fun x => decide (¬ x = 0)) (off := 7) (by decide +kernel : p_at 52 13 = some (.ifCond .ne 7)) (by decide +kernel) rfl rfl rfl,
  fun _ _ _ => p_r (by decide +kernel : p_at 52 16 = some (.iconst 1)) rfl,
  fun _ _ _ _ => p_rgo (by decide +kernel : p_at 52 17 = some (.goto 4)) (by decide +kernel),
  fun _ _ _ => p_r (by decide +kernel : p_at 52 20 = some (.iconst 0)) rfl,
  fun _ _ _ _ hp => p_rzret (by decide +kernel : p_at 52 21 = some (.ireturn)) (by decide +kernel) hp⟩
-- 53: leaves
theorem M53 :
  (∀ (scr : pX) (w : pW), p_ev scr 53 0 [.ref 0] [] w = p_ev scr 53 1 [.ref 0] [.ref 0] w) ∧
  (∀ (scr : pX) (w : pW), p_ev scr 53 1 [.ref 0] [.ref 0] w = p_ev scr 53 4 [.ref 0] [.ref 1] w) ∧
  (∀ (scr : pX) (w : pW), p_ev scr 53 4 [.ref 0] [.ref 1] w = p_bnd scr 53 4 7 [.ref 0] [] (p_ev none 42 0 [.ref 1, p_U, p_U] [] w)) ∧
  (∀ (scr : pX) (w : pW) (s0 : Int32), p_ev scr 53 7 [.ref 0] [.int s0] w = some (.inl (some (.int s0)), w, 0)) :=
  ⟨fun _ _ => p_r (by decide +kernel : p_at 53 0 = some (.aload_n 0)) rfl,
  fun _ _ => p_rgf (f := some 1) (by decide +kernel : p_at 53 1 = some (.getfield 10)) (by decide +kernel : p_fld (p_own 53) 10 = some (4, 0)) (rfl : p_ob 0 = some (.inr (4, [some 1, some 2, some 4, some 3, some 5, some 6, some 7, some 19]))) rfl,
  fun _ _ => p_rcv (nl := 3) (by decide +kernel : p_at 53 4 = some (.invokevirtual 125)) (by decide +kernel : p_inv (p_own 53) 125 = some (1, 42, 1)) (by decide +kernel) (rfl : p_ob 1 = some (.inr (3, [some 18, none]))) rfl rfl (Nat.le_of_ble_eq_true rfl) (Nat.le_of_ble_eq_true rfl) (Nat.le_of_ble_eq_true rfl) rfl,
  fun _ _ _ => p_riret (by decide +kernel : p_at 53 7 = some (.ireturn)) (by decide +kernel)⟩
-- 54: leafAt
theorem M54 :
  (∀ (scr : pX) (w : pW) (x1 : Int32), p_ev scr 54 0 [.ref 0, .int x1, p_U, p_U] [] w = p_ev scr 54 1 [.ref 0, .int x1, p_U, p_U] [.int x1] w) ∧
  (∀ (scr : pX) (w : pW) (x1 : Int32) (s0 : Int32), p_ev scr 54 1 [.ref 0, .int x1, p_U, p_U] [.int s0] w = if s0 < nI 0 then p_ev scr 54 15 [.ref 0, .int x1, p_U, p_U] [] w else p_ev scr 54 4 [.ref 0, .int x1, p_U, p_U] [] w) ∧
  (∀ (scr : pX) (w : pW) (x1 : Int32), p_ev scr 54 4 [.ref 0, .int x1, p_U, p_U] [] w = p_ev scr 54 5 [.ref 0, .int x1, p_U, p_U] [.int x1] w) ∧
  (∀ (scr : pX) (w : pW) (x1 : Int32) (s0 : Int32), p_ev scr 54 5 [.ref 0, .int x1, p_U, p_U] [.int s0] w = p_ev scr 54 6 [.ref 0, .int x1, p_U, p_U] [.ref 0, .int s0] w) ∧
  (∀ (scr : pX) (w : pW) (x1 : Int32) (s1 : Int32), p_ev scr 54 6 [.ref 0, .int x1, p_U, p_U] [.ref 0, .int s1] w = p_ev scr 54 9 [.ref 0, .int x1, p_U, p_U] [.ref 1, .int s1] w) ∧
  (∀ (scr : pX) (w : pW) (x1 : Int32) (s1 : Int32), p_ev scr 54 9 [.ref 0, .int x1, p_U, p_U] [.ref 1, .int s1] w = p_bnd scr 54 9 12 [.ref 0, .int x1, p_U, p_U] [.int s1] (p_ev none 42 0 [.ref 1, p_U, p_U] [] w)) ∧
  (∀ (scr : pX) (w : pW) (x1 : Int32) (s0 : Int32) (s1 : Int32), p_ev scr 54 12 [.ref 0, .int x1, p_U, p_U] [.int s0, .int s1] w = if s1 < s0 then p_ev scr 54 25 [.ref 0, .int x1, p_U, p_U] [] w else p_ev scr 54 15 [.ref 0, .int x1, p_U, p_U] [] w) ∧
  (∀ (scr : pX) (w : pW) (x1 : Int32), p_ev scr 54 15 [.ref 0, .int x1, p_U, p_U] [] w = some (.inr (.inl 2), w, 1)) ∧
  (∀ (scr : pX) (w : pW) (x1 : Int32), p_ev scr 54 25 [.ref 0, .int x1, p_U, p_U] [] w = p_ev scr 54 26 [.ref 0, .int x1, p_U, p_U] [.int (nI 0)] w) ∧
  (∀ (scr : pX) (w : pW) (x1 : Int32) (s0 : Int32), p_ev scr 54 26 [.ref 0, .int x1, p_U, p_U] [.int s0] w = p_ev scr 54 27 [.ref 0, .int x1, .int s0, p_U] [] w) ∧
  (∀ (scr : pX) (w : pW) (x1 : Int32) (x2 : Int32), p_ev scr 54 27 [.ref 0, .int x1, .int x2, p_U] [] w = p_ev scr 54 28 [.ref 0, .int x1, .int x2, p_U] [.int (nI 0)] w) ∧
  (∀ (scr : pX) (w : pW) (x1 : Int32) (x2 : Int32) (s0 : Int32), p_ev scr 54 28 [.ref 0, .int x1, .int x2, p_U] [.int s0] w = p_ev scr 54 29 [.ref 0, .int x1, .int x2, .int s0] [] w) ∧
  (∀ (scr : pX) (w : pW) (x1 : Int32) (x2 : Int32) (x3 : Int32) (s0 : Int32), p_ev scr 54 30 [.ref 0, .int x1, .int x2, .int x3] [.int s0] w = p_ev scr 54 31 [.ref 0, .int x1, .int x2, .int x3] [.int x1, .int s0] w) ∧
  (∀ (scr : pX) (w : pW) (x1 : Int32) (x2 : Int32) (x3 : Int32) (s0 : Int32) (s1 : Int32), p_ev scr 54 31 [.ref 0, .int x1, .int x2, .int x3] [.int s0, .int s1] w = if s0 ≤ s1 then p_ev scr 54 58 [.ref 0, .int x1, .int x2, .int x3] [] w else p_ev scr 54 34 [.ref 0, .int x1, .int x2, .int x3] [] w) ∧
  (∀ (scr : pX) (w : pW) (x1 : Int32) (x2 : Int32) (x3 : Int32), p_ev scr 54 34 [.ref 0, .int x1, .int x2, .int x3] [] w = p_ev scr 54 35 [.ref 0, .int x1, .int x2, .int x3] [.int x2] w) ∧
  (∀ (scr : pX) (w : pW) (x1 : Int32) (x2 : Int32) (x3 : Int32) (s0 : Int32), p_ev scr 54 35 [.ref 0, .int x1, .int x2, .int x3] [.int s0] w = p_ev scr 54 36 [.ref 0, .int x1, .int x2, .int x3] [.ref 0, .int s0] w) ∧
  (∀ (scr : pX) (w : pW) (x1 : Int32) (x2 : Int32) (x3 : Int32) (s1 : Int32), p_ev scr 54 36 [.ref 0, .int x1, .int x2, .int x3] [.ref 0, .int s1] w = p_ev scr 54 39 [.ref 0, .int x1, .int x2, .int x3] [.ref 1, .int s1] w) ∧
  (∀ (scr : pX) (w : pW) (x1 : Int32) (x2 : Int32) (x3 : Int32) (s1 : Int32), p_ev scr 54 39 [.ref 0, .int x1, .int x2, .int x3] [.ref 1, .int s1] w = p_ev scr 54 40 [.ref 0, .int x1, .int x2, .int x3] [.ref 0, .ref 1, .int s1] w) ∧
  (∀ (scr : pX) (w : pW) (x1 : Int32) (x2 : Int32) (x3 : Int32) (s2 : Int32), p_ev scr 54 40 [.ref 0, .int x1, .int x2, .int x3] [.ref 0, .ref 1, .int s2] w = p_ev scr 54 43 [.ref 0, .int x1, .int x2, .int x3] [.ref 1, .ref 1, .int s2] w) ∧
  (∀ (scr : pX) (w : pW) (x1 : Int32) (x2 : Int32) (x3 : Int32) (s2 : Int32), p_ev scr 54 43 [.ref 0, .int x1, .int x2, .int x3] [.ref 1, .ref 1, .int s2] w = p_ev scr 54 44 [.ref 0, .int x1, .int x2, .int x3] [.int x2, .ref 1, .ref 1, .int s2] w) ∧
  (∀ (scr : pX) (w : pW) (x1 : Int32) (x2 : Int32) (x3 : Int32) (s0 : Int32) (s3 : Int32), p_ev scr 54 44 [.ref 0, .int x1, .int x2, .int x3] [.int s0, .ref 1, .ref 1, .int s3] w = p_bnd scr 54 44 47 [.ref 0, .int x1, .int x2, .int x3] [.ref 1, .int s3] (p_ev none 41 0 [.ref 1, .int s0, p_U, p_U, p_U] [] w)) ∧
  (∀ (scr : pX) (w : pW) (x1 : Int32) (x2 : Int32) (x3 : Int32) (s0 : Int32) (s2 : Int32), p_ev scr 54 47 [.ref 0, .int x1, .int x2, .int x3] [.int s0, .ref 1, .int s2] w = p_bnd scr 54 47 50 [.ref 0, .int x1, .int x2, .int x3] [.int s2] (p_ev none 39 0 [.ref 1, .int s0] [] w)) ∧
  (∀ (scr : pX) (w : pW) (x1 : Int32) (x2 : Int32) (x3 : Int32) (s0 : Int32) (s1 : Int32), p_ev scr 54 50 [.ref 0, .int x1, .int x2, .int x3] [.int s0, .int s1] w = p_ev scr 54 51 [.ref 0, .int x1, .int x2, .int x3] [.int (s1 + s0)] w) ∧
  (∀ (scr : pX) (w : pW) (x1 : Int32) (x2 : Int32) (x3 : Int32) (s0 : Int32), p_ev scr 54 51 [.ref 0, .int x1, .int x2, .int x3] [.int s0] w = p_ev scr 54 52 [.ref 0, .int x1, .int s0, .int x3] [] w) ∧
  (∀ (scr : pX) (w : pW) (x1 : Int32) (x2 : Int32) (x3 : Int32), p_ev scr 54 52 [.ref 0, .int x1, .int x2, .int x3] [] w = p_ev scr 54 55 [.ref 0, .int x1, .int x2, .int (x3 + (nI 1))] [] w) ∧
  (∀ (scr : pX) (w : pW) (x1 : Int32) (x2 : Int32) (x3 : Int32), p_ev scr 54 55 [.ref 0, .int x1, .int x2, .int x3] [] w = p_ev scr 54 29 [.ref 0, .int x1, .int x2, .int x3] [] w) ∧
  (∀ (scr : pX) (w : pW) (x1 : Int32) (x2 : Int32) (x3 : Int32), p_ev scr 54 58 [.ref 0, .int x1, .int x2, .int x3] [] w = p_ev scr 54 59 [.ref 0, .int x1, .int x2, .int x3] [.ref 0] w) ∧
  (∀ (scr : pX) (w : pW) (x1 : Int32) (x2 : Int32) (x3 : Int32), p_ev scr 54 59 [.ref 0, .int x1, .int x2, .int x3] [.ref 0] w = p_ev scr 54 62 [.ref 0, .int x1, .int x2, .int x3] [.ref 1] w) ∧
  (∀ (scr : pX) (w : pW) (x1 : Int32) (x2 : Int32) (x3 : Int32), p_ev scr 54 62 [.ref 0, .int x1, .int x2, .int x3] [.ref 1] w = p_ev scr 54 63 [.ref 0, .int x1, .int x2, .int x3] [.int x2, .ref 1] w) ∧
  (∀ (scr : pX) (w : pW) (x1 : Int32) (x2 : Int32) (x3 : Int32) (s0 : Int32), p_ev scr 54 63 [.ref 0, .int x1, .int x2, .int x3] [.int s0, .ref 1] w = p_bnd scr 54 63 66 [.ref 0, .int x1, .int x2, .int x3] [] (p_ev none 41 0 [.ref 1, .int s0, p_U, p_U, p_U] [] w)) ∧
  (∀ (scr : pX) (w : pW) (x1 : Int32) (x2 : Int32) (x3 : Int32) (s0 : Int32), p_ev scr 54 66 [.ref 0, .int x1, .int x2, .int x3] [.int s0] w = some (.inl (some (.int s0)), w, 0)) :=
  ⟨fun _ _ _ => p_r (by decide +kernel : p_at 54 0 = some (.iload_n 1)) rfl,
  fun _ _ _ _ => p_rb1 (c := fun x => decide (x < 0)) (off := 14) (by decide +kernel : p_at 54 1 = some (.ifCond .lt 14)) (by decide +kernel) rfl rfl rfl,
  fun _ _ _ => p_r (by decide +kernel : p_at 54 4 = some (.iload_n 1)) rfl,
  fun _ _ _ _ => p_r (by decide +kernel : p_at 54 5 = some (.aload_n 0)) rfl,
  fun _ _ _ _ => p_rgf (f := some 1) (by decide +kernel : p_at 54 6 = some (.getfield 10)) (by decide +kernel : p_fld (p_own 54) 10 = some (4, 0)) (rfl : p_ob 0 = some (.inr (4, [some 1, some 2, some 4, some 3, some 5, some 6, some 7, some 19]))) rfl,
  fun _ _ _ _ => p_rcv (nl := 3) (by decide +kernel : p_at 54 9 = some (.invokevirtual 125)) (by decide +kernel : p_inv (p_own 54) 125 = some (1, 42, 1)) (by decide +kernel) (rfl : p_ob 1 = some (.inr (3, [some 18, none]))) rfl rfl (Nat.le_of_ble_eq_true rfl) (Nat.le_of_ble_eq_true rfl) (Nat.le_of_ble_eq_true rfl) rfl,
  fun _ _ _ _ _ => p_rb2 (c := fun x y => decide (x < y)) (off := 13) (by decide +kernel : p_at 54 12 = some (.if_icmp .lt 13)) (by decide +kernel) rfl rfl rfl,
  fun _ _ _ => p_rnew (by decide +kernel : p_at 54 15 = some (.new 128)) (by decide +kernel) (by decide +kernel : p_at 54 19 = some (.ldc 130)) (by decide +kernel : p_at 54 21 = some (.invokespecial 132)) (by decide +kernel) (by decide +kernel) (by decide +kernel),
  fun _ _ _ => p_r (by decide +kernel : p_at 54 25 = some (.iconst 0)) rfl,
  fun _ _ _ _ => p_r (by decide +kernel : p_at 54 26 = some (.istore_n 2)) rfl,
  fun _ _ _ _ => p_r (by decide +kernel : p_at 54 27 = some (.iconst 0)) rfl,
  fun _ _ _ _ _ => p_r (by decide +kernel : p_at 54 28 = some (.istore_n 3)) rfl,
  fun _ _ _ _ _ _ => p_r (by decide +kernel : p_at 54 30 = some (.iload_n 1)) rfl,
  fun _ _ _ _ _ _ _ => p_rb2 (c := fun x y => decide (y ≤ x)) (off := 27) (by decide +kernel : p_at 54 31 = some (.if_icmp .ge 27)) (by decide +kernel) rfl rfl rfl,
  fun _ _ _ _ _ => p_r (by decide +kernel : p_at 54 34 = some (.iload_n 2)) rfl,
  fun _ _ _ _ _ _ => p_r (by decide +kernel : p_at 54 35 = some (.aload_n 0)) rfl,
  fun _ _ _ _ _ _ => p_rgf (f := some 1) (by decide +kernel : p_at 54 36 = some (.getfield 10)) (by decide +kernel : p_fld (p_own 54) 10 = some (4, 0)) (rfl : p_ob 0 = some (.inr (4, [some 1, some 2, some 4, some 3, some 5, some 6, some 7, some 19]))) rfl,
  fun _ _ _ _ _ _ => p_r (by decide +kernel : p_at 54 39 = some (.aload_n 0)) rfl,
  fun _ _ _ _ _ _ => p_rgf (f := some 1) (by decide +kernel : p_at 54 40 = some (.getfield 10)) (by decide +kernel : p_fld (p_own 54) 10 = some (4, 0)) (rfl : p_ob 0 = some (.inr (4, [some 1, some 2, some 4, some 3, some 5, some 6, some 7, some 19]))) rfl,
  fun _ _ _ _ _ _ => p_r (by decide +kernel : p_at 54 43 = some (.iload_n 2)) rfl,
  fun _ _ _ _ _ _ _ => p_rcv (nl := 5) (by decide +kernel : p_at 54 44 = some (.invokevirtual 133)) (by decide +kernel : p_inv (p_own 54) 133 = some (1, 41, 2)) (by decide +kernel) (rfl : p_ob 1 = some (.inr (3, [some 18, none]))) rfl rfl (Nat.le_of_ble_eq_true rfl) (Nat.le_of_ble_eq_true rfl) (Nat.le_of_ble_eq_true rfl) rfl,
  fun _ _ _ _ _ _ _ => p_rcv (nl := 2) (by decide +kernel : p_at 54 47 = some (.invokevirtual 110)) (by decide +kernel : p_inv (p_own 54) 110 = some (1, 39, 2)) (by decide +kernel) (rfl : p_ob 1 = some (.inr (3, [some 18, none]))) rfl rfl (Nat.le_of_ble_eq_true rfl) (Nat.le_of_ble_eq_true rfl) (Nat.le_of_ble_eq_true rfl) rfl,
  fun _ _ _ _ _ _ _ => p_r (by decide +kernel : p_at 54 50 = some (.iadd)) rfl,
  fun _ _ _ _ _ _ => p_r (by decide +kernel : p_at 54 51 = some (.istore_n 2)) rfl,
  fun _ _ _ _ _ => p_r (by decide +kernel : p_at 54 52 = some (.iinc 3 1)) rfl,
  fun _ _ _ _ _ => p_rgo (by decide +kernel : p_at 54 55 = some (.goto (-26))) (by decide +kernel),
  fun _ _ _ _ _ => p_r (by decide +kernel : p_at 54 58 = some (.aload_n 0)) rfl,
  fun _ _ _ _ _ => p_rgf (f := some 1) (by decide +kernel : p_at 54 59 = some (.getfield 10)) (by decide +kernel : p_fld (p_own 54) 10 = some (4, 0)) (rfl : p_ob 0 = some (.inr (4, [some 1, some 2, some 4, some 3, some 5, some 6, some 7, some 19]))) rfl,
  fun _ _ _ _ _ => p_r (by decide +kernel : p_at 54 62 = some (.iload_n 2)) rfl,
  fun _ _ _ _ _ _ => p_rcv (nl := 5) (by decide +kernel : p_at 54 63 = some (.invokevirtual 133)) (by decide +kernel : p_inv (p_own 54) 133 = some (1, 41, 2)) (by decide +kernel) (rfl : p_ob 1 = some (.inr (3, [some 18, none]))) rfl rfl (Nat.le_of_ble_eq_true rfl) (Nat.le_of_ble_eq_true rfl) (Nat.le_of_ble_eq_true rfl) rfl,
  fun _ _ _ _ _ _ => p_riret (by decide +kernel : p_at 54 66 = some (.ireturn)) (by decide +kernel)⟩
theorem H54_29 :
  (∀ (scr : pX) (w : pW) (x1 : Int32) (x2 : Int32) (x3 : Int32), p_ev scr 54 29 [.ref 0, .int x1, .int x2, .int x3] [] w = p_ev scr 54 30 [.ref 0, .int x1, .int x2, .int x3] [.int x3] w) :=
  fun _ _ _ _ _ => p_r (by decide +kernel : p_at 54 29 = some (.iload_n 3)) rfl
-- 55: costOf
theorem M55 :
  (∀ (scr : pX) (w : pW) (x1 : Int32), p_ev scr 55 0 [.ref 0, .int x1] [] w = p_ev scr 55 1 [.ref 0, .int x1] [.ref 0] w) ∧
  (∀ (scr : pX) (w : pW) (x1 : Int32), p_ev scr 55 1 [.ref 0, .int x1] [.ref 0] w = p_ev scr 55 2 [.ref 0, .int x1] [.int x1, .ref 0] w) ∧
  (∀ (scr : pX) (w : pW) (x1 : Int32) (s0 : Int32), p_ev scr 55 2 [.ref 0, .int x1] [.int s0, .ref 0] w = p_bnd scr 55 2 5 [.ref 0, .int x1] [] (p_ev none 71 0 [.ref 0, .int s0] [] w)) ∧
  (∀ (scr : pX) (w : pW) (x1 : Int32), p_ev scr 55 5 [.ref 0, .int x1] [] w = p_ev scr 55 6 [.ref 0, .int x1] [.ref 0] w) ∧
  (∀ (scr : pX) (w : pW) (x1 : Int32), p_ev scr 55 6 [.ref 0, .int x1] [.ref 0] w = p_ev scr 55 7 [.ref 0, .int x1] [.int x1, .ref 0] w) ∧
  (∀ (scr : pX) (w : pW) (x1 : Int32) (s0 : Int32), p_ev scr 55 7 [.ref 0, .int x1] [.int s0, .ref 0] w = p_bnd scr 55 7 10 [.ref 0, .int x1] [] (p_ev none 85 0 [.ref 0, .int s0, p_U, p_U, p_U] [] w)) ∧
  (∀ (scr : pX) (w : pW) (x1 : Int32) (s0 : Int32), p_ev scr 55 10 [.ref 0, .int x1] [.int s0] w = some (.inl (some (.int s0)), w, 0)) :=
  ⟨fun _ _ _ => p_r (by decide +kernel : p_at 55 0 = some (.aload_n 0)) rfl,
  fun _ _ _ => p_r (by decide +kernel : p_at 55 1 = some (.iload_n 1)) rfl,
  fun _ _ _ _ => p_rcv (nl := 2) (by decide +kernel : p_at 55 2 = some (.invokevirtual 95)) (by decide +kernel : p_inv (p_own 55) 95 = some (1, 71, 2)) (by decide +kernel) (rfl : p_ob 0 = some (.inr (4, [some 1, some 2, some 4, some 3, some 5, some 6, some 7, some 19]))) rfl rfl (Nat.le_of_ble_eq_true rfl) (Nat.le_of_ble_eq_true rfl) (Nat.le_of_ble_eq_true rfl) rfl,
  fun _ _ _ => p_r (by decide +kernel : p_at 55 5 = some (.aload_n 0)) rfl,
  fun _ _ _ => p_r (by decide +kernel : p_at 55 6 = some (.iload_n 1)) rfl,
  fun _ _ _ _ => p_rcv (nl := 5) (by decide +kernel : p_at 55 7 = some (.invokevirtual 136)) (by decide +kernel : p_inv (p_own 55) 136 = some (1, 85, 2)) (by decide +kernel) (rfl : p_ob 0 = some (.inr (4, [some 1, some 2, some 4, some 3, some 5, some 6, some 7, some 19]))) rfl rfl (Nat.le_of_ble_eq_true rfl) (Nat.le_of_ble_eq_true rfl) (Nat.le_of_ble_eq_true rfl) rfl,
  fun _ _ _ _ => p_riret (by decide +kernel : p_at 55 10 = some (.ireturn)) (by decide +kernel)⟩
-- 56: chooseBasis
theorem M56 :
  (∀ (scr : pX) (w : pW) (x1 : Int32), p_ev scr 56 0 [.ref 0, .int x1] [] w = p_ev scr 56 1 [.ref 0, .int x1] [.int x1] w) ∧
  (∀ (scr : pX) (w : pW) (x1 : Int32) (s0 : Int32), p_ev scr 56 1 [.ref 0, .int x1] [.int s0] w = p_ev scr 56 2 [.ref 0, .int x1] [.int (nI 1), .int s0] w) ∧
  (∀ (scr : pX) (w : pW) (x1 : Int32) (s0 : Int32) (s1 : Int32), p_ev scr 56 2 [.ref 0, .int x1] [.int s0, .int s1] w = if s1 < s0 then p_ev scr 56 10 [.ref 0, .int x1] [] w else p_ev scr 56 5 [.ref 0, .int x1] [] w) ∧
  (∀ (scr : pX) (w : pW) (x1 : Int32), p_ev scr 56 5 [.ref 0, .int x1] [] w = p_ev scr 56 6 [.ref 0, .int x1] [.int x1] w) ∧
  (∀ (scr : pX) (w : pW) (x1 : Int32) (s0 : Int32), p_ev scr 56 6 [.ref 0, .int x1] [.int s0] w = p_ev scr 56 7 [.ref 0, .int x1] [.int (nI 3), .int s0] w) ∧
  (∀ (scr : pX) (w : pW) (x1 : Int32) (s0 : Int32) (s1 : Int32), p_ev scr 56 7 [.ref 0, .int x1] [.int s0, .int s1] w = if s1 ≤ s0 then p_ev scr 56 20 [.ref 0, .int x1] [] w else p_ev scr 56 10 [.ref 0, .int x1] [] w) ∧
  (∀ (scr : pX) (w : pW) (x1 : Int32), p_ev scr 56 10 [.ref 0, .int x1] [] w = some (.inr (.inl 0), w, 1)) ∧
  (∀ (scr : pX) (w : pW) (x1 : Int32), p_ev scr 56 20 [.ref 0, .int x1] [] w = p_ev scr 56 21 [.ref 0, .int x1] [.ref 0] w) ∧
  (∀ (scr : pX) (w : pW) (x1 : Int32), p_ev scr 56 21 [.ref 0, .int x1] [.ref 0] w = p_ev scr 56 22 [.ref 0, .int x1] [.int (nI 1), .ref 0] w) ∧
  (∀ (scr : pX) (w : pW) (x1 : Int32) (s0 : Int32), p_ev scr 56 22 [.ref 0, .int x1] [.int s0, .ref 0] w = p_bnd scr 56 22 25 [.ref 0, .int x1] [] (p_ev none 81 0 [.ref 0, .int s0, p_U] [] w)) ∧
  (∀ (scr : pX) (w : pW) (x1 : Int32) (s0 : Int32), p_ev scr 56 25 [.ref 0, .int x1] [.int s0] w = p_ev scr 56 26 [.ref 0, .int x1] [] w) ∧
  (∀ (scr : pX) (w : pW) (x1 : Int32), p_ev scr 56 26 [.ref 0, .int x1] [] w = p_ev scr 56 27 [.ref 0, .int x1] [.ref 0] w) ∧
  (∀ (scr : pX) (w : pW) (x1 : Int32), p_ev scr 56 27 [.ref 0, .int x1] [.ref 0] w = p_ev scr 56 28 [.ref 0, .int x1] [.int (nI 1), .ref 0] w) ∧
  (∀ (scr : pX) (w : pW) (x1 : Int32) (s0 : Int32), p_ev scr 56 28 [.ref 0, .int x1] [.int s0, .ref 0] w = p_ev scr 56 29 [.ref 0, .int x1] [.int x1, .int s0, .ref 0] w) ∧
  (∀ (scr : pX) (w : pW) (x1 : Int32) (s0 : Int32) (s1 : Int32), p_ev scr 56 29 [.ref 0, .int x1] [.int s0, .int s1, .ref 0] w = p_ev scr 56 30 [.ref 0, .int x1] [.int (s1 <<< (s0 &&& 31)), .ref 0] w) ∧
  (∀ (scr : pX) (w : pW) (x1 : Int32) (s0 : Int32), p_ev scr 56 30 [.ref 0, .int x1] [.int s0, .ref 0] w = p_bnd scr 56 30 33 [.ref 0, .int x1] [] (p_ev none 83 0 [.ref 0, .int s0, p_U] [] w)) ∧
  (∀ (scr : pX) (w : pW) (x1 : Int32), p_ev scr 56 33 [.ref 0, .int x1] [] w = p_ev scr 56 34 [.ref 0, .int x1] [.ref 0] w) ∧
  (∀ (scr : pX) (w : pW) (x1 : Int32), p_ev scr 56 34 [.ref 0, .int x1] [.ref 0] w = p_bnd scr 56 34 37 [.ref 0, .int x1] [] (p_ev none 84 0 [.ref 0, p_U] [] w)) ∧
  (∀ (scr : pX) (w : pW) (x1 : Int32), p_ev scr 56 37 [.ref 0, .int x1] [] w = p_ev scr 56 38 [.ref 0, .int x1] [.ref 0] w) ∧
  (∀ (scr : pX) (w : pW) (x1 : Int32), p_ev scr 56 38 [.ref 0, .int x1] [.ref 0] w = p_ev scr 56 39 [.ref 0, .int x1] [.int (nI 1), .ref 0] w) ∧
  (∀ (scr : pX) (w : pW) (x1 : Int32) (s0 : Int32), p_ev scr 56 39 [.ref 0, .int x1] [.int s0, .ref 0] w = p_bnd scr 56 39 42 [.ref 0, .int x1] [] (p_ev none 85 0 [.ref 0, .int s0, p_U, p_U, p_U] [] w)) ∧
  (∀ (scr : pX) (w : pW) (x1 : Int32) (s0 : Int32), p_ev scr 56 42 [.ref 0, .int x1] [.int s0] w = some (.inl (some (.int s0)), w, 0)) :=
  ⟨fun _ _ _ => p_r (by decide +kernel : p_at 56 0 = some (.iload_n 1)) rfl,
  fun _ _ _ _ => p_r (by decide +kernel : p_at 56 1 = some (.iconst 1)) rfl,
  fun _ _ _ _ _ => p_rb2 (c := fun x y => decide (x < y)) (off := 8) (by decide +kernel : p_at 56 2 = some (.if_icmp .lt 8)) (by decide +kernel) rfl rfl rfl,
  fun _ _ _ => p_r (by decide +kernel : p_at 56 5 = some (.iload_n 1)) rfl,
  fun _ _ _ _ => p_r (by decide +kernel : p_at 56 6 = some (.iconst 3)) rfl,
  fun _ _ _ _ _ => p_rb2 (c := fun x y => decide (x ≤ y)) (off := 13) (by decide +kernel : p_at 56 7 = some (.if_icmp .le 13)) (by decide +kernel) rfl rfl rfl,
  fun _ _ _ => p_rnew (by decide +kernel : p_at 56 10 = some (.new 50)) (by decide +kernel) (by decide +kernel : p_at 56 14 = some (.ldc 139)) (by decide +kernel : p_at 56 16 = some (.invokespecial 54)) (by decide +kernel) (by decide +kernel) (by decide +kernel),
  fun _ _ _ => p_r (by decide +kernel : p_at 56 20 = some (.aload_n 0)) rfl,
  fun _ _ _ => p_r (by decide +kernel : p_at 56 21 = some (.iconst 1)) rfl,
  fun _ _ _ _ => p_rcv (nl := 3) (by decide +kernel : p_at 56 22 = some (.invokevirtual 119)) (by decide +kernel : p_inv (p_own 56) 119 = some (1, 81, 2)) (by decide +kernel) (rfl : p_ob 0 = some (.inr (4, [some 1, some 2, some 4, some 3, some 5, some 6, some 7, some 19]))) rfl rfl (Nat.le_of_ble_eq_true rfl) (Nat.le_of_ble_eq_true rfl) (Nat.le_of_ble_eq_true rfl) rfl,
  fun _ _ _ _ => p_r (by decide +kernel : p_at 56 25 = some (.pop)) rfl,
  fun _ _ _ => p_r (by decide +kernel : p_at 56 26 = some (.aload_n 0)) rfl,
  fun _ _ _ => p_r (by decide +kernel : p_at 56 27 = some (.iconst 1)) rfl,
  fun _ _ _ _ => p_r (by decide +kernel : p_at 56 28 = some (.iload_n 1)) rfl,
  fun _ _ _ _ _ => p_r (by decide +kernel : p_at 56 29 = some (.ishl)) rfl,
  fun _ _ _ _ => p_rcv (nl := 3) (by decide +kernel : p_at 56 30 = some (.invokevirtual 141)) (by decide +kernel : p_inv (p_own 56) 141 = some (1, 83, 2)) (by decide +kernel) (rfl : p_ob 0 = some (.inr (4, [some 1, some 2, some 4, some 3, some 5, some 6, some 7, some 19]))) rfl rfl (Nat.le_of_ble_eq_true rfl) (Nat.le_of_ble_eq_true rfl) (Nat.le_of_ble_eq_true rfl) rfl,
  fun _ _ _ => p_r (by decide +kernel : p_at 56 33 = some (.aload_n 0)) rfl,
  fun _ _ _ => p_rcv (nl := 2) (by decide +kernel : p_at 56 34 = some (.invokevirtual 144)) (by decide +kernel : p_inv (p_own 56) 144 = some (1, 84, 1)) (by decide +kernel) (rfl : p_ob 0 = some (.inr (4, [some 1, some 2, some 4, some 3, some 5, some 6, some 7, some 19]))) rfl rfl (Nat.le_of_ble_eq_true rfl) (Nat.le_of_ble_eq_true rfl) (Nat.le_of_ble_eq_true rfl) rfl,
  fun _ _ _ => p_r (by decide +kernel : p_at 56 37 = some (.aload_n 0)) rfl,
  fun _ _ _ => p_r (by decide +kernel : p_at 56 38 = some (.iconst 1)) rfl,
  fun _ _ _ _ => p_rcv (nl := 5) (by decide +kernel : p_at 56 39 = some (.invokevirtual 136)) (by decide +kernel : p_inv (p_own 56) 136 = some (1, 85, 2)) (by decide +kernel) (rfl : p_ob 0 = some (.inr (4, [some 1, some 2, some 4, some 3, some 5, some 6, some 7, some 19]))) rfl rfl (Nat.le_of_ble_eq_true rfl) (Nat.le_of_ble_eq_true rfl) (Nat.le_of_ble_eq_true rfl) rfl,
  fun _ _ _ _ => p_riret (by decide +kernel : p_at 56 42 = some (.ireturn)) (by decide +kernel)⟩
-- 57: sizeOf
theorem M57 :
  (∀ (scr : pX) (w : pW) (x1 : Int32), p_ev scr 57 0 [.ref 0, .int x1] [] w = p_ev scr 57 1 [.ref 0, .int x1] [.ref 0] w) ∧
  (∀ (scr : pX) (w : pW) (x1 : Int32), p_ev scr 57 1 [.ref 0, .int x1] [.ref 0] w = p_ev scr 57 2 [.ref 0, .int x1] [.int x1, .ref 0] w) ∧
  (∀ (scr : pX) (w : pW) (x1 : Int32) (s0 : Int32), p_ev scr 57 2 [.ref 0, .int x1] [.int s0, .ref 0] w = p_bnd scr 57 2 5 [.ref 0, .int x1] [] (p_ev none 71 0 [.ref 0, .int s0] [] w)) ∧
  (∀ (scr : pX) (w : pW) (x1 : Int32), p_ev scr 57 5 [.ref 0, .int x1] [] w = p_ev scr 57 6 [.ref 0, .int x1] [.ref 0] w) ∧
  (∀ (scr : pX) (w : pW) (x1 : Int32), p_ev scr 57 6 [.ref 0, .int x1] [.ref 0] w = p_ev scr 57 7 [.ref 0, .int x1] [.int x1, .ref 0] w) ∧
  (∀ (scr : pX) (w : pW) (x1 : Int32) (s0 : Int32), p_ev scr 57 7 [.ref 0, .int x1] [.int s0, .ref 0] w = p_bnd scr 57 7 10 [.ref 0, .int x1] [] (p_ev none 72 0 [.ref 0, .int s0] [] w)) ∧
  (∀ (scr : pX) (w : pW) (x1 : Int32), p_ev scr 57 10 [.ref 0, .int x1] [] w = p_ev scr 57 11 [.ref 0, .int x1] [.ref 0] w) ∧
  (∀ (scr : pX) (w : pW) (x1 : Int32), p_ev scr 57 11 [.ref 0, .int x1] [.ref 0] w = p_ev scr 57 14 [.ref 0, .int x1] [.ref 1] w) ∧
  (∀ (scr : pX) (w : pW) (x1 : Int32), p_ev scr 57 14 [.ref 0, .int x1] [.ref 1] w = p_ev scr 57 15 [.ref 0, .int x1] [.int x1, .ref 1] w) ∧
  (∀ (scr : pX) (w : pW) (x1 : Int32) (s0 : Int32), p_ev scr 57 15 [.ref 0, .int x1] [.int s0, .ref 1] w = p_bnd scr 57 15 18 [.ref 0, .int x1] [] (p_ev none 39 0 [.ref 1, .int s0] [] w)) ∧
  (∀ (scr : pX) (w : pW) (x1 : Int32) (s0 : Int32), p_ev scr 57 18 [.ref 0, .int x1] [.int s0] w = some (.inl (some (.int s0)), w, 0)) :=
  ⟨fun _ _ _ => p_r (by decide +kernel : p_at 57 0 = some (.aload_n 0)) rfl,
  fun _ _ _ => p_r (by decide +kernel : p_at 57 1 = some (.iload_n 1)) rfl,
  fun _ _ _ _ => p_rcv (nl := 2) (by decide +kernel : p_at 57 2 = some (.invokevirtual 95)) (by decide +kernel : p_inv (p_own 57) 95 = some (1, 71, 2)) (by decide +kernel) (rfl : p_ob 0 = some (.inr (4, [some 1, some 2, some 4, some 3, some 5, some 6, some 7, some 19]))) rfl rfl (Nat.le_of_ble_eq_true rfl) (Nat.le_of_ble_eq_true rfl) (Nat.le_of_ble_eq_true rfl) rfl,
  fun _ _ _ => p_r (by decide +kernel : p_at 57 5 = some (.aload_n 0)) rfl,
  fun _ _ _ => p_r (by decide +kernel : p_at 57 6 = some (.iload_n 1)) rfl,
  fun _ _ _ _ => p_rcv (nl := 2) (by decide +kernel : p_at 57 7 = some (.invokevirtual 147)) (by decide +kernel : p_inv (p_own 57) 147 = some (1, 72, 2)) (by decide +kernel) (rfl : p_ob 0 = some (.inr (4, [some 1, some 2, some 4, some 3, some 5, some 6, some 7, some 19]))) rfl rfl (Nat.le_of_ble_eq_true rfl) (Nat.le_of_ble_eq_true rfl) (Nat.le_of_ble_eq_true rfl) rfl,
  fun _ _ _ => p_r (by decide +kernel : p_at 57 10 = some (.aload_n 0)) rfl,
  fun _ _ _ => p_rgf (f := some 1) (by decide +kernel : p_at 57 11 = some (.getfield 10)) (by decide +kernel : p_fld (p_own 57) 10 = some (4, 0)) (rfl : p_ob 0 = some (.inr (4, [some 1, some 2, some 4, some 3, some 5, some 6, some 7, some 19]))) rfl,
  fun _ _ _ => p_r (by decide +kernel : p_at 57 14 = some (.iload_n 1)) rfl,
  fun _ _ _ _ => p_rcv (nl := 2) (by decide +kernel : p_at 57 15 = some (.invokevirtual 110)) (by decide +kernel : p_inv (p_own 57) 110 = some (1, 39, 2)) (by decide +kernel) (rfl : p_ob 1 = some (.inr (3, [some 18, none]))) rfl rfl (Nat.le_of_ble_eq_true rfl) (Nat.le_of_ble_eq_true rfl) (Nat.le_of_ble_eq_true rfl) rfl,
  fun _ _ _ _ => p_riret (by decide +kernel : p_at 57 18 = some (.ireturn)) (by decide +kernel)⟩
-- 58: number
theorem M58 :
  (∀ (scr : pX) (w : pW) (x1 : Int32) (x2 : Int32), p_ev scr 58 0 [.ref 0, .int x1, .int x2] [] w = p_ev scr 58 1 [.ref 0, .int x1, .int x2] [.ref 0] w) ∧
  (∀ (scr : pX) (w : pW) (x1 : Int32) (x2 : Int32), p_ev scr 58 1 [.ref 0, .int x1, .int x2] [.ref 0] w = p_ev scr 58 2 [.ref 0, .int x1, .int x2] [.int x1, .ref 0] w) ∧
  (∀ (scr : pX) (w : pW) (x1 : Int32) (x2 : Int32) (s0 : Int32), p_ev scr 58 2 [.ref 0, .int x1, .int x2] [.int s0, .ref 0] w = p_bnd scr 58 2 5 [.ref 0, .int x1, .int x2] [] (p_ev none 71 0 [.ref 0, .int s0] [] w)) ∧
  (∀ (scr : pX) (w : pW) (x1 : Int32) (x2 : Int32), p_ev scr 58 5 [.ref 0, .int x1, .int x2] [] w = p_ev scr 58 6 [.ref 0, .int x1, .int x2] [.ref 0] w) ∧
  (∀ (scr : pX) (w : pW) (x1 : Int32) (x2 : Int32), p_ev scr 58 6 [.ref 0, .int x1, .int x2] [.ref 0] w = p_ev scr 58 7 [.ref 0, .int x1, .int x2] [.int x1, .ref 0] w) ∧
  (∀ (scr : pX) (w : pW) (x1 : Int32) (x2 : Int32) (s0 : Int32), p_ev scr 58 7 [.ref 0, .int x1, .int x2] [.int s0, .ref 0] w = p_bnd scr 58 7 10 [.ref 0, .int x1, .int x2] [] (p_ev none 72 0 [.ref 0, .int s0] [] w)) ∧
  (∀ (scr : pX) (w : pW) (x1 : Int32) (x2 : Int32), p_ev scr 58 10 [.ref 0, .int x1, .int x2] [] w = p_ev scr 58 11 [.ref 0, .int x1, .int x2] [.ref 0] w) ∧
  (∀ (scr : pX) (w : pW) (x1 : Int32) (x2 : Int32), p_ev scr 58 11 [.ref 0, .int x1, .int x2] [.ref 0] w = p_ev scr 58 12 [.ref 0, .int x1, .int x2] [.int x2, .ref 0] w) ∧
  (∀ (scr : pX) (w : pW) (x1 : Int32) (x2 : Int32) (s0 : Int32), p_ev scr 58 12 [.ref 0, .int x1, .int x2] [.int s0, .ref 0] w = p_ev scr 58 13 [.ref 0, .int x1, .int x2] [.ref 0, .int s0, .ref 0] w) ∧
  (∀ (scr : pX) (w : pW) (x1 : Int32) (x2 : Int32) (s1 : Int32), p_ev scr 58 13 [.ref 0, .int x1, .int x2] [.ref 0, .int s1, .ref 0] w = p_ev scr 58 16 [.ref 0, .int x1, .int x2] [.ref 1, .int s1, .ref 0] w) ∧
  (∀ (scr : pX) (w : pW) (x1 : Int32) (x2 : Int32) (s1 : Int32), p_ev scr 58 16 [.ref 0, .int x1, .int x2] [.ref 1, .int s1, .ref 0] w = p_ev scr 58 17 [.ref 0, .int x1, .int x2] [.int x1, .ref 1, .int s1, .ref 0] w) ∧
  (∀ (scr : pX) (w : pW) (x1 : Int32) (x2 : Int32) (s0 : Int32) (s2 : Int32), p_ev scr 58 17 [.ref 0, .int x1, .int x2] [.int s0, .ref 1, .int s2, .ref 0] w = p_bnd scr 58 17 20 [.ref 0, .int x1, .int x2] [.int s2, .ref 0] (p_ev none 39 0 [.ref 1, .int s0] [] w)) ∧
  (∀ (scr : pX) (w : pW) (x1 : Int32) (x2 : Int32) (s0 : Int32) (s1 : Int32), p_ev scr 58 20 [.ref 0, .int x1, .int x2] [.int s0, .int s1, .ref 0] w = p_bnd scr 58 20 23 [.ref 0, .int x1, .int x2] [] (p_ev none 76 0 [.ref 0, .int s1, .int s0] [] w)) ∧
  (∀ (scr : pX) (w : pW) (x1 : Int32) (x2 : Int32), p_ev scr 58 23 [.ref 0, .int x1, .int x2] [] w = p_ev scr 58 24 [.ref 0, .int x1, .int x2] [.ref 0] w) ∧
  (∀ (scr : pX) (w : pW) (x1 : Int32) (x2 : Int32), p_ev scr 58 24 [.ref 0, .int x1, .int x2] [.ref 0] w = p_ev scr 58 27 [.ref 0, .int x1, .int x2] [.ref 4] w) ∧
  (∀ (scr : pX) (w : pW) (x1 : Int32) (x2 : Int32), p_ev scr 58 27 [.ref 0, .int x1, .int x2] [.ref 4] w = p_ev scr 58 28 [.ref 0, .int x1, .int x2] [.ref 0, .ref 4] w) ∧
  (∀ (scr : pX) (w : pW) (x1 : Int32) (x2 : Int32), p_ev scr 58 28 [.ref 0, .int x1, .int x2] [.ref 0, .ref 4] w = p_ev scr 58 31 [.ref 0, .int x1, .int x2] [.ref 1, .ref 4] w) ∧
  (∀ (scr : pX) (w : pW) (x1 : Int32) (x2 : Int32), p_ev scr 58 31 [.ref 0, .int x1, .int x2] [.ref 1, .ref 4] w = p_ev scr 58 32 [.ref 0, .int x1, .int x2] [.int x1, .ref 1, .ref 4] w) ∧
  (∀ (scr : pX) (w : pW) (x1 : Int32) (x2 : Int32) (s0 : Int32), p_ev scr 58 32 [.ref 0, .int x1, .int x2] [.int s0, .ref 1, .ref 4] w = p_bnd scr 58 32 35 [.ref 0, .int x1, .int x2] [.ref 4] (p_ev none 40 0 [.ref 1, .int s0] [] w)) ∧
  (∀ (scr : pX) (w : pW) (x1 : Int32) (x2 : Int32) (s0 : Int32), p_ev scr 58 35 [.ref 0, .int x1, .int x2] [.int s0, .ref 4] w = p_ev scr 58 36 [.ref 0, .int x1, .int x2] [.int x2, .int s0, .ref 4] w) ∧
  (∀ (scr : pX) (w : pW) (x1 : Int32) (x2 : Int32) (s0 : Int32) (s1 : Int32), p_ev scr 58 36 [.ref 0, .int x1, .int x2] [.int s0, .int s1, .ref 4] w = p_ev scr 58 37 [.ref 0, .int x1, .int x2] [.int (s1 + s0), .ref 4] w) ∧
  (∀ (scr : pX) (w : pW) (x1 : Int32) (x2 : Int32) (s0 : Int32), p_ev scr 58 37 [.ref 0, .int x1, .int x2] [.int s0, .ref 4] w = p_bnd scr 58 37 40 [.ref 0, .int x1, .int x2] [] (p_ev none 24 0 [.ref 4, .int s0] [] w)) ∧
  (∀ (scr : pX) (w : pW) (x1 : Int32) (x2 : Int32) (t0 : Int64), p_ev scr 58 40 [.ref 0, .int x1, .int x2] [.long t0] w = some (.inl (some (.long t0)), w, 0)) :=
  ⟨fun _ _ _ _ => p_r (by decide +kernel : p_at 58 0 = some (.aload_n 0)) rfl,
  fun _ _ _ _ => p_r (by decide +kernel : p_at 58 1 = some (.iload_n 1)) rfl,
  fun _ _ _ _ _ => p_rcv (nl := 2) (by decide +kernel : p_at 58 2 = some (.invokevirtual 95)) (by decide +kernel : p_inv (p_own 58) 95 = some (1, 71, 2)) (by decide +kernel) (rfl : p_ob 0 = some (.inr (4, [some 1, some 2, some 4, some 3, some 5, some 6, some 7, some 19]))) rfl rfl (Nat.le_of_ble_eq_true rfl) (Nat.le_of_ble_eq_true rfl) (Nat.le_of_ble_eq_true rfl) rfl,
  fun _ _ _ _ => p_r (by decide +kernel : p_at 58 5 = some (.aload_n 0)) rfl,
  fun _ _ _ _ => p_r (by decide +kernel : p_at 58 6 = some (.iload_n 1)) rfl,
  fun _ _ _ _ _ => p_rcv (nl := 2) (by decide +kernel : p_at 58 7 = some (.invokevirtual 147)) (by decide +kernel : p_inv (p_own 58) 147 = some (1, 72, 2)) (by decide +kernel) (rfl : p_ob 0 = some (.inr (4, [some 1, some 2, some 4, some 3, some 5, some 6, some 7, some 19]))) rfl rfl (Nat.le_of_ble_eq_true rfl) (Nat.le_of_ble_eq_true rfl) (Nat.le_of_ble_eq_true rfl) rfl,
  fun _ _ _ _ => p_r (by decide +kernel : p_at 58 10 = some (.aload_n 0)) rfl,
  fun _ _ _ _ => p_r (by decide +kernel : p_at 58 11 = some (.iload_n 2)) rfl,
  fun _ _ _ _ _ => p_r (by decide +kernel : p_at 58 12 = some (.aload_n 0)) rfl,
  fun _ _ _ _ _ => p_rgf (f := some 1) (by decide +kernel : p_at 58 13 = some (.getfield 10)) (by decide +kernel : p_fld (p_own 58) 10 = some (4, 0)) (rfl : p_ob 0 = some (.inr (4, [some 1, some 2, some 4, some 3, some 5, some 6, some 7, some 19]))) rfl,
  fun _ _ _ _ _ => p_r (by decide +kernel : p_at 58 16 = some (.iload_n 1)) rfl,
  fun _ _ _ _ _ _ => p_rcv (nl := 2) (by decide +kernel : p_at 58 17 = some (.invokevirtual 110)) (by decide +kernel : p_inv (p_own 58) 110 = some (1, 39, 2)) (by decide +kernel) (rfl : p_ob 1 = some (.inr (3, [some 18, none]))) rfl rfl (Nat.le_of_ble_eq_true rfl) (Nat.le_of_ble_eq_true rfl) (Nat.le_of_ble_eq_true rfl) rfl,
  fun _ _ _ _ _ _ => p_rcv (nl := 3) (by decide +kernel : p_at 58 20 = some (.invokevirtual 150)) (by decide +kernel : p_inv (p_own 58) 150 = some (1, 76, 3)) (by decide +kernel) (rfl : p_ob 0 = some (.inr (4, [some 1, some 2, some 4, some 3, some 5, some 6, some 7, some 19]))) rfl rfl (Nat.le_of_ble_eq_true rfl) (Nat.le_of_ble_eq_true rfl) (Nat.le_of_ble_eq_true rfl) rfl,
  fun _ _ _ _ => p_r (by decide +kernel : p_at 58 23 = some (.aload_n 0)) rfl,
  fun _ _ _ _ => p_rgf (f := some 4) (by decide +kernel : p_at 58 24 = some (.getfield 26)) (by decide +kernel : p_fld (p_own 58) 26 = some (4, 2)) (rfl : p_ob 0 = some (.inr (4, [some 1, some 2, some 4, some 3, some 5, some 6, some 7, some 19]))) rfl,
  fun _ _ _ _ => p_r (by decide +kernel : p_at 58 27 = some (.aload_n 0)) rfl,
  fun _ _ _ _ => p_rgf (f := some 1) (by decide +kernel : p_at 58 28 = some (.getfield 10)) (by decide +kernel : p_fld (p_own 58) 10 = some (4, 0)) (rfl : p_ob 0 = some (.inr (4, [some 1, some 2, some 4, some 3, some 5, some 6, some 7, some 19]))) rfl,
  fun _ _ _ _ => p_r (by decide +kernel : p_at 58 31 = some (.iload_n 1)) rfl,
  fun _ _ _ _ _ => p_rcv (nl := 2) (by decide +kernel : p_at 58 32 = some (.invokevirtual 154)) (by decide +kernel : p_inv (p_own 58) 154 = some (1, 40, 2)) (by decide +kernel) (rfl : p_ob 1 = some (.inr (3, [some 18, none]))) rfl rfl (Nat.le_of_ble_eq_true rfl) (Nat.le_of_ble_eq_true rfl) (Nat.le_of_ble_eq_true rfl) rfl,
  fun _ _ _ _ _ => p_r (by decide +kernel : p_at 58 35 = some (.iload_n 2)) rfl,
  fun _ _ _ _ _ _ => p_r (by decide +kernel : p_at 58 36 = some (.iadd)) rfl,
  fun _ _ _ _ _ => p_rcv (nl := 2) (by decide +kernel : p_at 58 37 = some (.invokevirtual 76)) (by decide +kernel : p_inv (p_own 58) 76 = some (1, 24, 2)) (by decide +kernel) (rfl : p_ob 4 = some (.inr (2, [some 11]))) rfl rfl (Nat.le_of_ble_eq_true rfl) (Nat.le_of_ble_eq_true rfl) (Nat.le_of_ble_eq_true rfl) rfl,
  fun _ _ _ _ _ => p_rlret (by decide +kernel : p_at 58 40 = some (.lreturn)) (by decide +kernel)⟩
-- 60: filtered
theorem M60 :
  (∀ (scr : pX) (w : pW) (x1 : Int32) (x2 : Int32), p_ev scr 60 0 [.ref 0, .int x1, .int x2, p_U, p_U, p_U, p_U, p_U] [] w = p_ev scr 60 1 [.ref 0, .int x1, .int x2, p_U, p_U, p_U, p_U, p_U] [.ref 0] w) ∧
  (∀ (scr : pX) (w : pW) (x1 : Int32) (x2 : Int32), p_ev scr 60 1 [.ref 0, .int x1, .int x2, p_U, p_U, p_U, p_U, p_U] [.ref 0] w = p_ev scr 60 2 [.ref 0, .int x1, .int x2, p_U, p_U, p_U, p_U, p_U] [.int x1, .ref 0] w) ∧
  (∀ (scr : pX) (w : pW) (x1 : Int32) (x2 : Int32) (s0 : Int32), p_ev scr 60 2 [.ref 0, .int x1, .int x2, p_U, p_U, p_U, p_U, p_U] [.int s0, .ref 0] w = p_bnd scr 60 2 5 [.ref 0, .int x1, .int x2, p_U, p_U, p_U, p_U, p_U] [] (p_ev none 71 0 [.ref 0, .int s0] [] w)) ∧
  (∀ (scr : pX) (w : pW) (x1 : Int32) (x2 : Int32), p_ev scr 60 5 [.ref 0, .int x1, .int x2, p_U, p_U, p_U, p_U, p_U] [] w = p_ev scr 60 6 [.ref 0, .int x1, .int x2, p_U, p_U, p_U, p_U, p_U] [.ref 0] w) ∧
  (∀ (scr : pX) (w : pW) (x1 : Int32) (x2 : Int32), p_ev scr 60 6 [.ref 0, .int x1, .int x2, p_U, p_U, p_U, p_U, p_U] [.ref 0] w = p_ev scr 60 7 [.ref 0, .int x1, .int x2, p_U, p_U, p_U, p_U, p_U] [.int x1, .ref 0] w) ∧
  (∀ (scr : pX) (w : pW) (x1 : Int32) (x2 : Int32) (s0 : Int32), p_ev scr 60 7 [.ref 0, .int x1, .int x2, p_U, p_U, p_U, p_U, p_U] [.int s0, .ref 0] w = p_bnd scr 60 7 10 [.ref 0, .int x1, .int x2, p_U, p_U, p_U, p_U, p_U] [] (p_ev none 72 0 [.ref 0, .int s0] [] w)) ∧
  (∀ (scr : pX) (w : pW) (x1 : Int32) (x2 : Int32), p_ev scr 60 10 [.ref 0, .int x1, .int x2, p_U, p_U, p_U, p_U, p_U] [] w = p_ev scr 60 11 [.ref 0, .int x1, .int x2, p_U, p_U, p_U, p_U, p_U] [.ref 0] w) ∧
  (∀ (scr : pX) (w : pW) (x1 : Int32) (x2 : Int32), p_ev scr 60 11 [.ref 0, .int x1, .int x2, p_U, p_U, p_U, p_U, p_U] [.ref 0] w = p_ev scr 60 14 [.ref 0, .int x1, .int x2, p_U, p_U, p_U, p_U, p_U] [.ref 1] w) ∧
  (∀ (scr : pX) (w : pW) (x1 : Int32) (x2 : Int32), p_ev scr 60 14 [.ref 0, .int x1, .int x2, p_U, p_U, p_U, p_U, p_U] [.ref 1] w = p_ev scr 60 15 [.ref 0, .int x1, .int x2, p_U, p_U, p_U, p_U, p_U] [.int x1, .ref 1] w) ∧
  (∀ (scr : pX) (w : pW) (x1 : Int32) (x2 : Int32) (s0 : Int32), p_ev scr 60 15 [.ref 0, .int x1, .int x2, p_U, p_U, p_U, p_U, p_U] [.int s0, .ref 1] w = p_bnd scr 60 15 18 [.ref 0, .int x1, .int x2, p_U, p_U, p_U, p_U, p_U] [] (p_ev none 39 0 [.ref 1, .int s0] [] w)) ∧
  (∀ (scr : pX) (w : pW) (x1 : Int32) (x2 : Int32) (s0 : Int32), p_ev scr 60 18 [.ref 0, .int x1, .int x2, p_U, p_U, p_U, p_U, p_U] [.int s0] w = p_ev scr 60 19 [.ref 0, .int x1, .int x2, p_U, p_U, p_U, p_U, p_U] [.int (nI 2), .int s0] w) ∧
  (∀ (scr : pX) (w : pW) (x1 : Int32) (x2 : Int32) (s0 : Int32) (s1 : Int32), ¬ s0 = 0 → p_ev scr 60 19 [.ref 0, .int x1, .int x2, p_U, p_U, p_U, p_U, p_U] [.int s0, .int s1] w = p_ev scr 60 20 [.ref 0, .int x1, .int x2, p_U, p_U, p_U, p_U, p_U] [.int (s1 / s0)] w) ∧
  (∀ (scr : pX) (w : pW) (x1 : Int32) (x2 : Int32) (s0 : Int32), p_ev scr 60 20 [.ref 0, .int x1, .int x2, p_U, p_U, p_U, p_U, p_U] [.int s0] w = p_ev scr 60 21 [.ref 0, .int x1, .int x2, .int s0, p_U, p_U, p_U, p_U] [] w) ∧
  (∀ (scr : pX) (w : pW) (x1 : Int32) (x2 : Int32) (x3 : Int32), p_ev scr 60 21 [.ref 0, .int x1, .int x2, .int x3, p_U, p_U, p_U, p_U] [] w = p_ev scr 60 22 [.ref 0, .int x1, .int x2, .int x3, p_U, p_U, p_U, p_U] [.ref 0] w) ∧
  (∀ (scr : pX) (w : pW) (x1 : Int32) (x2 : Int32) (x3 : Int32), p_ev scr 60 22 [.ref 0, .int x1, .int x2, .int x3, p_U, p_U, p_U, p_U] [.ref 0] w = p_ev scr 60 23 [.ref 0, .int x1, .int x2, .int x3, p_U, p_U, p_U, p_U] [.int x2, .ref 0] w) ∧
  (∀ (scr : pX) (w : pW) (x1 : Int32) (x2 : Int32) (x3 : Int32) (s0 : Int32), p_ev scr 60 23 [.ref 0, .int x1, .int x2, .int x3, p_U, p_U, p_U, p_U] [.int s0, .ref 0] w = p_ev scr 60 24 [.ref 0, .int x1, .int x2, .int x3, p_U, p_U, p_U, p_U] [.int x3, .int s0, .ref 0] w) ∧
  (∀ (scr : pX) (w : pW) (x1 : Int32) (x2 : Int32) (x3 : Int32) (s0 : Int32) (s1 : Int32), p_ev scr 60 24 [.ref 0, .int x1, .int x2, .int x3, p_U, p_U, p_U, p_U] [.int s0, .int s1, .ref 0] w = p_bnd scr 60 24 27 [.ref 0, .int x1, .int x2, .int x3, p_U, p_U, p_U, p_U] [] (p_ev none 76 0 [.ref 0, .int s1, .int s0] [] w)) ∧
  (∀ (scr : pX) (w : pW) (x1 : Int32) (x2 : Int32) (x3 : Int32), p_ev scr 60 27 [.ref 0, .int x1, .int x2, .int x3, p_U, p_U, p_U, p_U] [] w = p_ev scr 60 28 [.ref 0, .int x1, .int x2, .int x3, p_U, p_U, p_U, p_U] [.ref 0] w) ∧
  (∀ (scr : pX) (w : pW) (x1 : Int32) (x2 : Int32) (x3 : Int32), p_ev scr 60 28 [.ref 0, .int x1, .int x2, .int x3, p_U, p_U, p_U, p_U] [.ref 0] w = p_ev scr 60 31 [.ref 0, .int x1, .int x2, .int x3, p_U, p_U, p_U, p_U] [.ref 2] w) ∧
  (∀ (scr : pX) (w : pW) (x1 : Int32) (x2 : Int32) (x3 : Int32), p_ev scr 60 31 [.ref 0, .int x1, .int x2, .int x3, p_U, p_U, p_U, p_U] [.ref 2] w = p_bnd scr 60 31 34 [.ref 0, .int x1, .int x2, .int x3, p_U, p_U, p_U, p_U] [] (p_ev none 15 0 [.ref 2] [] w)) ∧
  (∀ (scr : pX) (w : pW) (x1 : Int32) (x2 : Int32) (x3 : Int32) (s0 : Int32), p_ev scr 60 34 [.ref 0, .int x1, .int x2, .int x3, p_U, p_U, p_U, p_U] [.int s0] w = p_ev scr 60 35 [.ref 0, .int x1, .int x2, .int x3, p_U, p_U, p_U, p_U] [.int (nI 2), .int s0] w) ∧
  (∀ (scr : pX) (w : pW) (x1 : Int32) (x2 : Int32) (x3 : Int32) (s0 : Int32) (s1 : Int32), p_ev scr 60 35 [.ref 0, .int x1, .int x2, .int x3, p_U, p_U, p_U, p_U] [.int s0, .int s1] w = if ¬ s1 = s0 then p_ev scr 60 48 [.ref 0, .int x1, .int x2, .int x3, p_U, p_U, p_U, p_U] [] w else p_ev scr 60 38 [.ref 0, .int x1, .int x2, .int x3, p_U, p_U, p_U, p_U] [] w) ∧
  (∀ (scr : pX) (w : pW) (x1 : Int32) (x2 : Int32) (x3 : Int32), p_ev scr 60 38 [.ref 0, .int x1, .int x2, .int x3, p_U, p_U, p_U, p_U] [] w = some (.inr (.inl 1), w, 1)) ∧
  (∀ (scr : pX) (w : pW) (x1 : Int32) (x2 : Int32) (x3 : Int32), p_ev scr 60 48 [.ref 0, .int x1, .int x2, .int x3, p_U, p_U, p_U, p_U] [] w = p_ev scr 60 49 [.ref 0, .int x1, .int x2, .int x3, p_U, p_U, p_U, p_U] [.ref 0] w) ∧
  (∀ (scr : pX) (w : pW) (x1 : Int32) (x2 : Int32) (x3 : Int32), p_ev scr 60 49 [.ref 0, .int x1, .int x2, .int x3, p_U, p_U, p_U, p_U] [.ref 0] w = p_ev scr 60 52 [.ref 0, .int x1, .int x2, .int x3, p_U, p_U, p_U, p_U] [.ref 1] w) ∧
  (∀ (scr : pX) (w : pW) (x1 : Int32) (x2 : Int32) (x3 : Int32), p_ev scr 60 52 [.ref 0, .int x1, .int x2, .int x3, p_U, p_U, p_U, p_U] [.ref 1] w = p_ev scr 60 53 [.ref 0, .int x1, .int x2, .int x3, p_U, p_U, p_U, p_U] [.int x1, .ref 1] w) ∧
  (∀ (scr : pX) (w : pW) (x1 : Int32) (x2 : Int32) (x3 : Int32) (s0 : Int32), p_ev scr 60 53 [.ref 0, .int x1, .int x2, .int x3, p_U, p_U, p_U, p_U] [.int s0, .ref 1] w = p_bnd scr 60 53 56 [.ref 0, .int x1, .int x2, .int x3, p_U, p_U, p_U, p_U] [] (p_ev none 40 0 [.ref 1, .int s0] [] w)) ∧
  (∀ (scr : pX) (w : pW) (x1 : Int32) (x2 : Int32) (x3 : Int32) (s0 : Int32), p_ev scr 60 56 [.ref 0, .int x1, .int x2, .int x3, p_U, p_U, p_U, p_U] [.int s0] w = p_ev scr 60 57 [.ref 0, .int x1, .int x2, .int x3, p_U, p_U, p_U, p_U] [.int (nI 2), .int s0] w) ∧
  (∀ (scr : pX) (w : pW) (x1 : Int32) (x2 : Int32) (x3 : Int32) (s0 : Int32) (s1 : Int32), p_ev scr 60 57 [.ref 0, .int x1, .int x2, .int x3, p_U, p_U, p_U, p_U] [.int s0, .int s1] w = p_ev scr 60 58 [.ref 0, .int x1, .int x2, .int x3, p_U, p_U, p_U, p_U] [.int x2, .int s0, .int s1] w) ∧
  (∀ (scr : pX) (w : pW) (x1 : Int32) (x2 : Int32) (x3 : Int32) (s0 : Int32) (s1 : Int32) (s2 : Int32), p_ev scr 60 58 [.ref 0, .int x1, .int x2, .int x3, p_U, p_U, p_U, p_U] [.int s0, .int s1, .int s2] w = p_ev scr 60 59 [.ref 0, .int x1, .int x2, .int x3, p_U, p_U, p_U, p_U] [.int (s1 * s0), .int s2] w) ∧
  (∀ (scr : pX) (w : pW) (x1 : Int32) (x2 : Int32) (x3 : Int32) (s0 : Int32) (s1 : Int32), p_ev scr 60 59 [.ref 0, .int x1, .int x2, .int x3, p_U, p_U, p_U, p_U] [.int s0, .int s1] w = p_ev scr 60 60 [.ref 0, .int x1, .int x2, .int x3, p_U, p_U, p_U, p_U] [.int (s1 + s0)] w) ∧
  (∀ (scr : pX) (w : pW) (x1 : Int32) (x2 : Int32) (x3 : Int32) (s0 : Int32), p_ev scr 60 60 [.ref 0, .int x1, .int x2, .int x3, p_U, p_U, p_U, p_U] [.int s0] w = p_ev scr 60 62 [.ref 0, .int x1, .int x2, .int x3, .int s0, p_U, p_U, p_U] [] w) ∧
  (∀ (scr : pX) (w : pW) (x1 : Int32) (x2 : Int32) (x3 : Int32) (x4 : Int32), p_ev scr 60 62 [.ref 0, .int x1, .int x2, .int x3, .int x4, p_U, p_U, p_U] [] w = p_ev scr 60 63 [.ref 0, .int x1, .int x2, .int x3, .int x4, p_U, p_U, p_U] [.ref 0] w) ∧
  (∀ (scr : pX) (w : pW) (x1 : Int32) (x2 : Int32) (x3 : Int32) (x4 : Int32), p_ev scr 60 63 [.ref 0, .int x1, .int x2, .int x3, .int x4, p_U, p_U, p_U] [.ref 0] w = p_ev scr 60 66 [.ref 0, .int x1, .int x2, .int x3, .int x4, p_U, p_U, p_U] [.ref 2] w) ∧
  (∀ (scr : pX) (w : pW) (x1 : Int32) (x2 : Int32) (x3 : Int32) (x4 : Int32), p_ev scr 60 66 [.ref 0, .int x1, .int x2, .int x3, .int x4, p_U, p_U, p_U] [.ref 2] w = p_bnd scr 60 66 69 [.ref 0, .int x1, .int x2, .int x3, .int x4, p_U, p_U, p_U] [] (p_ev none 15 0 [.ref 2] [] w)) ∧
  (∀ (scr : pX) (w : pW) (x1 : Int32) (x2 : Int32) (x3 : Int32) (x4 : Int32) (s0 : Int32), p_ev scr 60 69 [.ref 0, .int x1, .int x2, .int x3, .int x4, p_U, p_U, p_U] [.int s0] w = if ¬ s0 = nI 0 then p_ev scr 60 94 [.ref 0, .int x1, .int x2, .int x3, .int x4, p_U, p_U, p_U] [] w else p_ev scr 60 72 [.ref 0, .int x1, .int x2, .int x3, .int x4, p_U, p_U, p_U] [] w) ∧
  (∀ (scr : pX) (w : pW) (x1 : Int32) (x2 : Int32) (x3 : Int32) (x4 : Int32), p_ev scr 60 72 [.ref 0, .int x1, .int x2, .int x3, .int x4, p_U, p_U, p_U] [] w = p_ev scr 60 73 [.ref 0, .int x1, .int x2, .int x3, .int x4, p_U, p_U, p_U] [.ref 0] w) ∧
  (∀ (scr : pX) (w : pW) (x1 : Int32) (x2 : Int32) (x3 : Int32) (x4 : Int32), p_ev scr 60 73 [.ref 0, .int x1, .int x2, .int x3, .int x4, p_U, p_U, p_U] [.ref 0] w = p_ev scr 60 76 [.ref 0, .int x1, .int x2, .int x3, .int x4, p_U, p_U, p_U] [.ref 4] w) ∧
  (∀ (scr : pX) (w : pW) (x1 : Int32) (x2 : Int32) (x3 : Int32) (x4 : Int32), p_ev scr 60 76 [.ref 0, .int x1, .int x2, .int x3, .int x4, p_U, p_U, p_U] [.ref 4] w = p_ev scr 60 78 [.ref 0, .int x1, .int x2, .int x3, .int x4, p_U, p_U, p_U] [.int x4, .ref 4] w) ∧
  (∀ (scr : pX) (w : pW) (x1 : Int32) (x2 : Int32) (x3 : Int32) (x4 : Int32) (s0 : Int32), p_ev scr 60 78 [.ref 0, .int x1, .int x2, .int x3, .int x4, p_U, p_U, p_U] [.int s0, .ref 4] w = p_ev scr 60 79 [.ref 0, .int x1, .int x2, .int x3, .int x4, p_U, p_U, p_U] [.int (nI 1), .int s0, .ref 4] w) ∧
  (∀ (scr : pX) (w : pW) (x1 : Int32) (x2 : Int32) (x3 : Int32) (x4 : Int32) (s0 : Int32) (s1 : Int32), p_ev scr 60 79 [.ref 0, .int x1, .int x2, .int x3, .int x4, p_U, p_U, p_U] [.int s0, .int s1, .ref 4] w = p_ev scr 60 80 [.ref 0, .int x1, .int x2, .int x3, .int x4, p_U, p_U, p_U] [.int (s1 + s0), .ref 4] w) ∧
  (∀ (scr : pX) (w : pW) (x1 : Int32) (x2 : Int32) (x3 : Int32) (x4 : Int32) (s0 : Int32), p_ev scr 60 80 [.ref 0, .int x1, .int x2, .int x3, .int x4, p_U, p_U, p_U] [.int s0, .ref 4] w = p_bnd scr 60 80 83 [.ref 0, .int x1, .int x2, .int x3, .int x4, p_U, p_U, p_U] [] (p_ev none 24 0 [.ref 4, .int s0] [] w)) ∧
  (∀ (scr : pX) (w : pW) (x1 : Int32) (x2 : Int32) (x3 : Int32) (x4 : Int32) (t0 : Int64), p_ev scr 60 83 [.ref 0, .int x1, .int x2, .int x3, .int x4, p_U, p_U, p_U] [.long t0] w = p_ev scr 60 84 [.ref 0, .int x1, .int x2, .int x3, .int x4, p_U, p_U, p_U] [.ref 0, .long t0] w) ∧
  (∀ (scr : pX) (w : pW) (x1 : Int32) (x2 : Int32) (x3 : Int32) (x4 : Int32) (t1 : Int64), p_ev scr 60 84 [.ref 0, .int x1, .int x2, .int x3, .int x4, p_U, p_U, p_U] [.ref 0, .long t1] w = p_ev scr 60 87 [.ref 0, .int x1, .int x2, .int x3, .int x4, p_U, p_U, p_U] [.ref 4, .long t1] w) ∧
  (∀ (scr : pX) (w : pW) (x1 : Int32) (x2 : Int32) (x3 : Int32) (x4 : Int32) (t1 : Int64), p_ev scr 60 87 [.ref 0, .int x1, .int x2, .int x3, .int x4, p_U, p_U, p_U] [.ref 4, .long t1] w = p_ev scr 60 89 [.ref 0, .int x1, .int x2, .int x3, .int x4, p_U, p_U, p_U] [.int x4, .ref 4, .long t1] w) ∧
  (∀ (scr : pX) (w : pW) (x1 : Int32) (x2 : Int32) (x3 : Int32) (x4 : Int32) (s0 : Int32) (t2 : Int64), p_ev scr 60 89 [.ref 0, .int x1, .int x2, .int x3, .int x4, p_U, p_U, p_U] [.int s0, .ref 4, .long t2] w = p_bnd scr 60 89 92 [.ref 0, .int x1, .int x2, .int x3, .int x4, p_U, p_U, p_U] [.long t2] (p_ev none 24 0 [.ref 4, .int s0] [] w)) ∧
  (∀ (scr : pX) (w : pW) (x1 : Int32) (x2 : Int32) (x3 : Int32) (x4 : Int32) (t0 : Int64) (t1 : Int64), p_ev scr 60 92 [.ref 0, .int x1, .int x2, .int x3, .int x4, p_U, p_U, p_U] [.long t0, .long t1] w = p_ev scr 60 93 [.ref 0, .int x1, .int x2, .int x3, .int x4, p_U, p_U, p_U] [.long (t1 - t0)] w) ∧
  (∀ (scr : pX) (w : pW) (x1 : Int32) (x2 : Int32) (x3 : Int32) (x4 : Int32) (t0 : Int64), p_ev scr 60 93 [.ref 0, .int x1, .int x2, .int x3, .int x4, p_U, p_U, p_U] [.long t0] w = some (.inl (some (.long t0)), w, 0)) ∧
  (∀ (scr : pX) (w : pW) (x1 : Int32) (x2 : Int32) (x3 : Int32) (x4 : Int32), p_ev scr 60 94 [.ref 0, .int x1, .int x2, .int x3, .int x4, p_U, p_U, p_U] [] w = p_ev scr 60 95 [.ref 0, .int x1, .int x2, .int x3, .int x4, p_U, p_U, p_U] [.int x2] w) ∧
  (∀ (scr : pX) (w : pW) (x1 : Int32) (x2 : Int32) (x3 : Int32) (x4 : Int32) (s0 : Int32), p_ev scr 60 95 [.ref 0, .int x1, .int x2, .int x3, .int x4, p_U, p_U, p_U] [.int s0] w = p_ev scr 60 96 [.ref 0, .int x1, .int x2, .int x3, .int x4, p_U, p_U, p_U] [.int (nI 1), .int s0] w) ∧
  (∀ (scr : pX) (w : pW) (x1 : Int32) (x2 : Int32) (x3 : Int32) (x4 : Int32) (s0 : Int32) (s1 : Int32), p_ev scr 60 96 [.ref 0, .int x1, .int x2, .int x3, .int x4, p_U, p_U, p_U] [.int s0, .int s1] w = p_ev scr 60 97 [.ref 0, .int x1, .int x2, .int x3, .int x4, p_U, p_U, p_U] [.int (s1 + s0)] w) ∧
  (∀ (scr : pX) (w : pW) (x1 : Int32) (x2 : Int32) (x3 : Int32) (x4 : Int32) (s0 : Int32), p_ev scr 60 97 [.ref 0, .int x1, .int x2, .int x3, .int x4, p_U, p_U, p_U] [.int s0] w = p_ev scr 60 98 [.ref 0, .int x1, .int x2, .int x3, .int x4, p_U, p_U, p_U] [.int x3, .int s0] w) ∧
  (∀ (scr : pX) (w : pW) (x1 : Int32) (x2 : Int32) (x3 : Int32) (x4 : Int32) (s0 : Int32) (s1 : Int32), p_ev scr 60 98 [.ref 0, .int x1, .int x2, .int x3, .int x4, p_U, p_U, p_U] [.int s0, .int s1] w = if s0 ≤ s1 then p_ev scr 60 108 [.ref 0, .int x1, .int x2, .int x3, .int x4, p_U, p_U, p_U] [] w else p_ev scr 60 101 [.ref 0, .int x1, .int x2, .int x3, .int x4, p_U, p_U, p_U] [] w) ∧
  (∀ (scr : pX) (w : pW) (x1 : Int32) (x2 : Int32) (x3 : Int32) (x4 : Int32), p_ev scr 60 101 [.ref 0, .int x1, .int x2, .int x3, .int x4, p_U, p_U, p_U] [] w = p_ev scr 60 103 [.ref 0, .int x1, .int x2, .int x3, .int x4, p_U, p_U, p_U] [.int x4] w) ∧
  (∀ (scr : pX) (w : pW) (x1 : Int32) (x2 : Int32) (x3 : Int32) (x4 : Int32) (s0 : Int32), p_ev scr 60 103 [.ref 0, .int x1, .int x2, .int x3, .int x4, p_U, p_U, p_U] [.int s0] w = p_ev scr 60 104 [.ref 0, .int x1, .int x2, .int x3, .int x4, p_U, p_U, p_U] [.int (nI 2), .int s0] w) ∧
  (∀ (scr : pX) (w : pW) (x1 : Int32) (x2 : Int32) (x3 : Int32) (x4 : Int32) (s0 : Int32) (s1 : Int32), p_ev scr 60 104 [.ref 0, .int x1, .int x2, .int x3, .int x4, p_U, p_U, p_U] [.int s0, .int s1] w = p_ev scr 60 105 [.ref 0, .int x1, .int x2, .int x3, .int x4, p_U, p_U, p_U] [.int (s1 + s0)] w) ∧
  (∀ (scr : pX) (w : pW) (x1 : Int32) (x2 : Int32) (x3 : Int32) (x4 : Int32) (s0 : Int32), p_ev scr 60 105 [.ref 0, .int x1, .int x2, .int x3, .int x4, p_U, p_U, p_U] [.int s0] w = p_ev scr 60 110 [.ref 0, .int x1, .int x2, .int x3, .int x4, p_U, p_U, p_U] [.int s0] w) ∧
  (∀ (scr : pX) (w : pW) (x1 : Int32) (x2 : Int32) (x3 : Int32) (x4 : Int32), p_ev scr 60 108 [.ref 0, .int x1, .int x2, .int x3, .int x4, p_U, p_U, p_U] [] w = p_ev scr 60 110 [.ref 0, .int x1, .int x2, .int x3, .int x4, p_U, p_U, p_U] [.int x4] w) ∧
  (∀ (scr : pX) (w : pW) (x1 : Int32) (x2 : Int32) (x3 : Int32) (x4 : Int32) (s0 : Int32), p_ev scr 60 110 [.ref 0, .int x1, .int x2, .int x3, .int x4, p_U, p_U, p_U] [.int s0] w = p_ev scr 60 112 [.ref 0, .int x1, .int x2, .int x3, .int x4, .int s0, p_U, p_U] [] w) ∧
  (∀ (scr : pX) (w : pW) (x1 : Int32) (x2 : Int32) (x3 : Int32) (x4 : Int32) (x5 : Int32), p_ev scr 60 112 [.ref 0, .int x1, .int x2, .int x3, .int x4, .int x5, p_U, p_U] [] w = p_ev scr 60 115 [.ref 0, .int x1, .int x2, .int x3, .int x4, .int x5, p_U, p_U] [.long (lN 2)] w) ∧
  (∀ (scr : pX) (w : pW) (x1 : Int32) (x2 : Int32) (x3 : Int32) (x4 : Int32) (x5 : Int32) (t0 : Int64), p_ev scr 60 115 [.ref 0, .int x1, .int x2, .int x3, .int x4, .int x5, p_U, p_U] [.long t0] w = p_ev scr 60 116 [.ref 0, .int x1, .int x2, .int x3, .int x4, .int x5, p_U, p_U] [.ref 0, .long t0] w) ∧
  (∀ (scr : pX) (w : pW) (x1 : Int32) (x2 : Int32) (x3 : Int32) (x4 : Int32) (x5 : Int32) (t1 : Int64), p_ev scr 60 116 [.ref 0, .int x1, .int x2, .int x3, .int x4, .int x5, p_U, p_U] [.ref 0, .long t1] w = p_ev scr 60 119 [.ref 0, .int x1, .int x2, .int x3, .int x4, .int x5, p_U, p_U] [.ref 4, .long t1] w) ∧
  (∀ (scr : pX) (w : pW) (x1 : Int32) (x2 : Int32) (x3 : Int32) (x4 : Int32) (x5 : Int32) (t1 : Int64), p_ev scr 60 119 [.ref 0, .int x1, .int x2, .int x3, .int x4, .int x5, p_U, p_U] [.ref 4, .long t1] w = p_ev scr 60 121 [.ref 0, .int x1, .int x2, .int x3, .int x4, .int x5, p_U, p_U] [.int x4, .ref 4, .long t1] w) ∧
  (∀ (scr : pX) (w : pW) (x1 : Int32) (x2 : Int32) (x3 : Int32) (x4 : Int32) (x5 : Int32) (s0 : Int32) (t2 : Int64), p_ev scr 60 121 [.ref 0, .int x1, .int x2, .int x3, .int x4, .int x5, p_U, p_U] [.int s0, .ref 4, .long t2] w = p_ev scr 60 122 [.ref 0, .int x1, .int x2, .int x3, .int x4, .int x5, p_U, p_U] [.int (nI 1), .int s0, .ref 4, .long t2] w) ∧
  (∀ (scr : pX) (w : pW) (x1 : Int32) (x2 : Int32) (x3 : Int32) (x4 : Int32) (x5 : Int32) (s0 : Int32) (s1 : Int32) (t3 : Int64), p_ev scr 60 122 [.ref 0, .int x1, .int x2, .int x3, .int x4, .int x5, p_U, p_U] [.int s0, .int s1, .ref 4, .long t3] w = p_ev scr 60 123 [.ref 0, .int x1, .int x2, .int x3, .int x4, .int x5, p_U, p_U] [.int (s1 + s0), .ref 4, .long t3] w) ∧
  (∀ (scr : pX) (w : pW) (x1 : Int32) (x2 : Int32) (x3 : Int32) (x4 : Int32) (x5 : Int32) (s0 : Int32) (t2 : Int64), p_ev scr 60 123 [.ref 0, .int x1, .int x2, .int x3, .int x4, .int x5, p_U, p_U] [.int s0, .ref 4, .long t2] w = p_bnd scr 60 123 126 [.ref 0, .int x1, .int x2, .int x3, .int x4, .int x5, p_U, p_U] [.long t2] (p_ev none 24 0 [.ref 4, .int s0] [] w)) ∧
  (∀ (scr : pX) (w : pW) (x1 : Int32) (x2 : Int32) (x3 : Int32) (x4 : Int32) (x5 : Int32) (t0 : Int64) (t1 : Int64), p_ev scr 60 126 [.ref 0, .int x1, .int x2, .int x3, .int x4, .int x5, p_U, p_U] [.long t0, .long t1] w = p_ev scr 60 127 [.ref 0, .int x1, .int x2, .int x3, .int x4, .int x5, p_U, p_U] [.long (t1 * t0)] w) ∧
  (∀ (scr : pX) (w : pW) (x1 : Int32) (x2 : Int32) (x3 : Int32) (x4 : Int32) (x5 : Int32) (t0 : Int64), p_ev scr 60 127 [.ref 0, .int x1, .int x2, .int x3, .int x4, .int x5, p_U, p_U] [.long t0] w = p_ev scr 60 128 [.ref 0, .int x1, .int x2, .int x3, .int x4, .int x5, p_U, p_U] [.ref 0, .long t0] w) ∧
  (∀ (scr : pX) (w : pW) (x1 : Int32) (x2 : Int32) (x3 : Int32) (x4 : Int32) (x5 : Int32) (t1 : Int64), p_ev scr 60 128 [.ref 0, .int x1, .int x2, .int x3, .int x4, .int x5, p_U, p_U] [.ref 0, .long t1] w = p_ev scr 60 131 [.ref 0, .int x1, .int x2, .int x3, .int x4, .int x5, p_U, p_U] [.ref 4, .long t1] w) ∧
  (∀ (scr : pX) (w : pW) (x1 : Int32) (x2 : Int32) (x3 : Int32) (x4 : Int32) (x5 : Int32) (t1 : Int64), p_ev scr 60 131 [.ref 0, .int x1, .int x2, .int x3, .int x4, .int x5, p_U, p_U] [.ref 4, .long t1] w = p_ev scr 60 133 [.ref 0, .int x1, .int x2, .int x3, .int x4, .int x5, p_U, p_U] [.int x4, .ref 4, .long t1] w) ∧
  (∀ (scr : pX) (w : pW) (x1 : Int32) (x2 : Int32) (x3 : Int32) (x4 : Int32) (x5 : Int32) (s0 : Int32) (t2 : Int64), p_ev scr 60 133 [.ref 0, .int x1, .int x2, .int x3, .int x4, .int x5, p_U, p_U] [.int s0, .ref 4, .long t2] w = p_bnd scr 60 133 136 [.ref 0, .int x1, .int x2, .int x3, .int x4, .int x5, p_U, p_U] [.long t2] (p_ev none 24 0 [.ref 4, .int s0] [] w)) ∧
  (∀ (scr : pX) (w : pW) (x1 : Int32) (x2 : Int32) (x3 : Int32) (x4 : Int32) (x5 : Int32) (t0 : Int64) (t1 : Int64), p_ev scr 60 136 [.ref 0, .int x1, .int x2, .int x3, .int x4, .int x5, p_U, p_U] [.long t0, .long t1] w = p_ev scr 60 137 [.ref 0, .int x1, .int x2, .int x3, .int x4, .int x5, p_U, p_U] [.long (t1 - t0)] w) ∧
  (∀ (scr : pX) (w : pW) (x1 : Int32) (x2 : Int32) (x3 : Int32) (x4 : Int32) (x5 : Int32) (t0 : Int64), p_ev scr 60 137 [.ref 0, .int x1, .int x2, .int x3, .int x4, .int x5, p_U, p_U] [.long t0] w = p_ev scr 60 138 [.ref 0, .int x1, .int x2, .int x3, .int x4, .int x5, p_U, p_U] [.ref 0, .long t0] w) ∧
  (∀ (scr : pX) (w : pW) (x1 : Int32) (x2 : Int32) (x3 : Int32) (x4 : Int32) (x5 : Int32) (t1 : Int64), p_ev scr 60 138 [.ref 0, .int x1, .int x2, .int x3, .int x4, .int x5, p_U, p_U] [.ref 0, .long t1] w = p_ev scr 60 141 [.ref 0, .int x1, .int x2, .int x3, .int x4, .int x5, p_U, p_U] [.ref 4, .long t1] w) ∧
  (∀ (scr : pX) (w : pW) (x1 : Int32) (x2 : Int32) (x3 : Int32) (x4 : Int32) (x5 : Int32) (t1 : Int64), p_ev scr 60 141 [.ref 0, .int x1, .int x2, .int x3, .int x4, .int x5, p_U, p_U] [.ref 4, .long t1] w = p_ev scr 60 143 [.ref 0, .int x1, .int x2, .int x3, .int x4, .int x5, p_U, p_U] [.int x5, .ref 4, .long t1] w) ∧
  (∀ (scr : pX) (w : pW) (x1 : Int32) (x2 : Int32) (x3 : Int32) (x4 : Int32) (x5 : Int32) (s0 : Int32) (t2 : Int64), p_ev scr 60 143 [.ref 0, .int x1, .int x2, .int x3, .int x4, .int x5, p_U, p_U] [.int s0, .ref 4, .long t2] w = p_bnd scr 60 143 146 [.ref 0, .int x1, .int x2, .int x3, .int x4, .int x5, p_U, p_U] [.long t2] (p_ev none 24 0 [.ref 4, .int s0] [] w)) ∧
  (∀ (scr : pX) (w : pW) (x1 : Int32) (x2 : Int32) (x3 : Int32) (x4 : Int32) (x5 : Int32) (t0 : Int64) (t1 : Int64), p_ev scr 60 146 [.ref 0, .int x1, .int x2, .int x3, .int x4, .int x5, p_U, p_U] [.long t0, .long t1] w = p_ev scr 60 147 [.ref 0, .int x1, .int x2, .int x3, .int x4, .int x5, p_U, p_U] [.long (t1 - t0)] w) ∧
  (∀ (scr : pX) (w : pW) (x1 : Int32) (x2 : Int32) (x3 : Int32) (x4 : Int32) (x5 : Int32) (t0 : Int64), p_ev scr 60 147 [.ref 0, .int x1, .int x2, .int x3, .int x4, .int x5, p_U, p_U] [.long t0] w = p_ev scr 60 149 [.ref 0, .int x1, .int x2, .int x3, .int x4, .int x5, .long t0, p_U] [] w) ∧
  (∀ (scr : pX) (w : pW) (x1 : Int32) (x2 : Int32) (x3 : Int32) (x4 : Int32) (x5 : Int32) (y6 : Int64), p_ev scr 60 149 [.ref 0, .int x1, .int x2, .int x3, .int x4, .int x5, .long y6, p_U] [] w = p_ev scr 60 151 [.ref 0, .int x1, .int x2, .int x3, .int x4, .int x5, .long y6, p_U] [.long y6] w) ∧
  (∀ (scr : pX) (w : pW) (x1 : Int32) (x2 : Int32) (x3 : Int32) (x4 : Int32) (x5 : Int32) (y6 : Int64) (t0 : Int64), p_ev scr 60 151 [.ref 0, .int x1, .int x2, .int x3, .int x4, .int x5, .long y6, p_U] [.long t0] w = p_ev scr 60 152 [.ref 0, .int x1, .int x2, .int x3, .int x4, .int x5, .long y6, p_U] [.long (lN 1), .long t0] w) ∧
  (∀ (scr : pX) (w : pW) (x1 : Int32) (x2 : Int32) (x3 : Int32) (x4 : Int32) (x5 : Int32) (y6 : Int64) (t0 : Int64) (t1 : Int64), p_ev scr 60 152 [.ref 0, .int x1, .int x2, .int x3, .int x4, .int x5, .long y6, p_U] [.long t0, .long t1] w = p_ev scr 60 153 [.ref 0, .int x1, .int x2, .int x3, .int x4, .int x5, .long y6, p_U] [.long (t1 + t0)] w) ∧
  (∀ (scr : pX) (w : pW) (x1 : Int32) (x2 : Int32) (x3 : Int32) (x4 : Int32) (x5 : Int32) (y6 : Int64) (t0 : Int64), p_ev scr 60 153 [.ref 0, .int x1, .int x2, .int x3, .int x4, .int x5, .long y6, p_U] [.long t0] w = p_ev scr 60 154 [.ref 0, .int x1, .int x2, .int x3, .int x4, .int x5, .long y6, p_U] [.int (nI 1), .long t0] w) ∧
  (∀ (scr : pX) (w : pW) (x1 : Int32) (x2 : Int32) (x3 : Int32) (x4 : Int32) (x5 : Int32) (y6 : Int64) (s0 : Int32) (t1 : Int64), p_ev scr 60 154 [.ref 0, .int x1, .int x2, .int x3, .int x4, .int x5, .long y6, p_U] [.int s0, .long t1] w = p_ev scr 60 155 [.ref 0, .int x1, .int x2, .int x3, .int x4, .int x5, .long y6, p_U] [.long (t1 >>> (s0.toInt64 &&& 63))] w) ∧
  (∀ (scr : pX) (w : pW) (x1 : Int32) (x2 : Int32) (x3 : Int32) (x4 : Int32) (x5 : Int32) (y6 : Int64) (t0 : Int64), p_ev scr 60 155 [.ref 0, .int x1, .int x2, .int x3, .int x4, .int x5, .long y6, p_U] [.long t0] w = some (.inl (some (.long t0)), w, 0)) :=
  ⟨fun _ _ _ _ => p_r (by decide +kernel : p_at 60 0 = some (.aload_n 0)) rfl,
  fun _ _ _ _ => p_r (by decide +kernel : p_at 60 1 = some (.iload_n 1)) rfl,
  fun _ _ _ _ _ => p_rcv (nl := 2) (by decide +kernel : p_at 60 2 = some (.invokevirtual 95)) (by decide +kernel : p_inv (p_own 60) 95 = some (1, 71, 2)) (by decide +kernel) (rfl : p_ob 0 = some (.inr (4, [some 1, some 2, some 4, some 3, some 5, some 6, some 7, some 19]))) rfl rfl (Nat.le_of_ble_eq_true rfl) (Nat.le_of_ble_eq_true rfl) (Nat.le_of_ble_eq_true rfl) rfl,
  fun _ _ _ _ => p_r (by decide +kernel : p_at 60 5 = some (.aload_n 0)) rfl,
  fun _ _ _ _ => p_r (by decide +kernel : p_at 60 6 = some (.iload_n 1)) rfl,
  fun _ _ _ _ _ => p_rcv (nl := 2) (by decide +kernel : p_at 60 7 = some (.invokevirtual 147)) (by decide +kernel : p_inv (p_own 60) 147 = some (1, 72, 2)) (by decide +kernel) (rfl : p_ob 0 = some (.inr (4, [some 1, some 2, some 4, some 3, some 5, some 6, some 7, some 19]))) rfl rfl (Nat.le_of_ble_eq_true rfl) (Nat.le_of_ble_eq_true rfl) (Nat.le_of_ble_eq_true rfl) rfl,
  fun _ _ _ _ => p_r (by decide +kernel : p_at 60 10 = some (.aload_n 0)) rfl,
  fun _ _ _ _ => p_rgf (f := some 1) (by decide +kernel : p_at 60 11 = some (.getfield 10)) (by decide +kernel : p_fld (p_own 60) 10 = some (4, 0)) (rfl : p_ob 0 = some (.inr (4, [some 1, some 2, some 4, some 3, some 5, some 6, some 7, some 19]))) rfl,
  fun _ _ _ _ => p_r (by decide +kernel : p_at 60 14 = some (.iload_n 1)) rfl,
  fun _ _ _ _ _ => p_rcv (nl := 2) (by decide +kernel : p_at 60 15 = some (.invokevirtual 110)) (by decide +kernel : p_inv (p_own 60) 110 = some (1, 39, 2)) (by decide +kernel) (rfl : p_ob 1 = some (.inr (3, [some 18, none]))) rfl rfl (Nat.le_of_ble_eq_true rfl) (Nat.le_of_ble_eq_true rfl) (Nat.le_of_ble_eq_true rfl) rfl,
  fun _ _ _ _ _ => p_r (by decide +kernel : p_at 60 18 = some (.iconst 2)) rfl,
  fun _ _ _ _ _ _ hp => p_ridiv (by decide +kernel : p_at 60 19 = some (.idiv)) hp,
  fun _ _ _ _ _ => p_r (by decide +kernel : p_at 60 20 = some (.istore_n 3)) rfl,
  fun _ _ _ _ _ => p_r (by decide +kernel : p_at 60 21 = some (.aload_n 0)) rfl,
  fun _ _ _ _ _ => p_r (by decide +kernel : p_at 60 22 = some (.iload_n 2)) rfl,
  fun _ _ _ _ _ _ => p_r (by decide +kernel : p_at 60 23 = some (.iload_n 3)) rfl,
  fun _ _ _ _ _ _ _ => p_rcv (nl := 3) (by decide +kernel : p_at 60 24 = some (.invokevirtual 150)) (by decide +kernel : p_inv (p_own 60) 150 = some (1, 76, 3)) (by decide +kernel) (rfl : p_ob 0 = some (.inr (4, [some 1, some 2, some 4, some 3, some 5, some 6, some 7, some 19]))) rfl rfl (Nat.le_of_ble_eq_true rfl) (Nat.le_of_ble_eq_true rfl) (Nat.le_of_ble_eq_true rfl) rfl,
  fun _ _ _ _ _ => p_r (by decide +kernel : p_at 60 27 = some (.aload_n 0)) rfl,
  fun _ _ _ _ _ => p_rgf (f := some 2) (by decide +kernel : p_at 60 28 = some (.getfield 19)) (by decide +kernel : p_fld (p_own 60) 19 = some (4, 1)) (rfl : p_ob 0 = some (.inr (4, [some 1, some 2, some 4, some 3, some 5, some 6, some 7, some 19]))) rfl,
  fun _ _ _ _ _ => p_rcv (nl := 1) (by decide +kernel : p_at 60 31 = some (.invokevirtual 89)) (by decide +kernel : p_inv (p_own 60) 89 = some (1, 15, 1)) (by decide +kernel) (rfl : p_ob 2 = some (.inr (1, [some 8, none]))) rfl rfl (Nat.le_of_ble_eq_true rfl) (Nat.le_of_ble_eq_true rfl) (Nat.le_of_ble_eq_true rfl) rfl,
  fun _ _ _ _ _ _ => p_r (by decide +kernel : p_at 60 34 = some (.iconst 2)) rfl,
  fun _ _ _ _ _ _ _ => p_rb2 (c := fun x y => decide (¬ x = y)) (off := 13) (by decide +kernel : p_at 60 35 = some (.if_icmp .ne 13)) (by decide +kernel) rfl rfl rfl,
  fun _ _ _ _ _ => p_rnew (by decide +kernel : p_at 60 38 = some (.new 102)) (by decide +kernel) (by decide +kernel : p_at 60 42 = some (.ldc 161)) (by decide +kernel : p_at 60 44 = some (.invokespecial 106)) (by decide +kernel) (by decide +kernel) (by decide +kernel),
  fun _ _ _ _ _ => p_r (by decide +kernel : p_at 60 48 = some (.aload_n 0)) rfl,
  fun _ _ _ _ _ => p_rgf (f := some 1) (by decide +kernel : p_at 60 49 = some (.getfield 10)) (by decide +kernel : p_fld (p_own 60) 10 = some (4, 0)) (rfl : p_ob 0 = some (.inr (4, [some 1, some 2, some 4, some 3, some 5, some 6, some 7, some 19]))) rfl,
  fun _ _ _ _ _ => p_r (by decide +kernel : p_at 60 52 = some (.iload_n 1)) rfl,
  fun _ _ _ _ _ _ => p_rcv (nl := 2) (by decide +kernel : p_at 60 53 = some (.invokevirtual 154)) (by decide +kernel : p_inv (p_own 60) 154 = some (1, 40, 2)) (by decide +kernel) (rfl : p_ob 1 = some (.inr (3, [some 18, none]))) rfl rfl (Nat.le_of_ble_eq_true rfl) (Nat.le_of_ble_eq_true rfl) (Nat.le_of_ble_eq_true rfl) rfl,
  fun _ _ _ _ _ _ => p_r (by decide +kernel : p_at 60 56 = some (.iconst 2)) rfl,
  fun _ _ _ _ _ _ _ => p_r (by decide +kernel : p_at 60 57 = some (.iload_n 2)) rfl,
  fun _ _ _ _ _ _ _ _ => p_r (by decide +kernel : p_at 60 58 = some (.imul)) rfl,
  fun _ _ _ _ _ _ _ => p_r (by decide +kernel : p_at 60 59 = some (.iadd)) rfl,
  fun _ _ _ _ _ _ => p_r (by decide +kernel : p_at 60 60 = some (.istore 4)) rfl,
  fun _ _ _ _ _ _ => p_r (by decide +kernel : p_at 60 62 = some (.aload_n 0)) rfl,
  fun _ _ _ _ _ _ => p_rgf (f := some 2) (by decide +kernel : p_at 60 63 = some (.getfield 19)) (by decide +kernel : p_fld (p_own 60) 19 = some (4, 1)) (rfl : p_ob 0 = some (.inr (4, [some 1, some 2, some 4, some 3, some 5, some 6, some 7, some 19]))) rfl,
  fun _ _ _ _ _ _ => p_rcv (nl := 1) (by decide +kernel : p_at 60 66 = some (.invokevirtual 89)) (by decide +kernel : p_inv (p_own 60) 89 = some (1, 15, 1)) (by decide +kernel) (rfl : p_ob 2 = some (.inr (1, [some 8, none]))) rfl rfl (Nat.le_of_ble_eq_true rfl) (Nat.le_of_ble_eq_true rfl) (Nat.le_of_ble_eq_true rfl) rfl,
  fun _ _ _ _ _ _ _ => p_rb1 (c := fun x => decide (¬ x = 0)) (off := 25) (by decide +kernel : p_at 60 69 = some (.ifCond .ne 25)) (by decide +kernel) rfl rfl rfl,
  fun _ _ _ _ _ _ => p_r (by decide +kernel : p_at 60 72 = some (.aload_n 0)) rfl,
  fun _ _ _ _ _ _ => p_rgf (f := some 4) (by decide +kernel : p_at 60 73 = some (.getfield 26)) (by decide +kernel : p_fld (p_own 60) 26 = some (4, 2)) (rfl : p_ob 0 = some (.inr (4, [some 1, some 2, some 4, some 3, some 5, some 6, some 7, some 19]))) rfl,
  fun _ _ _ _ _ _ => p_r (by decide +kernel : p_at 60 76 = some (.iload 4)) rfl,
  fun _ _ _ _ _ _ _ => p_r (by decide +kernel : p_at 60 78 = some (.iconst 1)) rfl,
  fun _ _ _ _ _ _ _ _ => p_r (by decide +kernel : p_at 60 79 = some (.iadd)) rfl,
  fun _ _ _ _ _ _ _ => p_rcv (nl := 2) (by decide +kernel : p_at 60 80 = some (.invokevirtual 76)) (by decide +kernel : p_inv (p_own 60) 76 = some (1, 24, 2)) (by decide +kernel) (rfl : p_ob 4 = some (.inr (2, [some 11]))) rfl rfl (Nat.le_of_ble_eq_true rfl) (Nat.le_of_ble_eq_true rfl) (Nat.le_of_ble_eq_true rfl) rfl,
  fun _ _ _ _ _ _ _ => p_r (by decide +kernel : p_at 60 83 = some (.aload_n 0)) rfl,
  fun _ _ _ _ _ _ _ => p_rgf (f := some 4) (by decide +kernel : p_at 60 84 = some (.getfield 26)) (by decide +kernel : p_fld (p_own 60) 26 = some (4, 2)) (rfl : p_ob 0 = some (.inr (4, [some 1, some 2, some 4, some 3, some 5, some 6, some 7, some 19]))) rfl,
  fun _ _ _ _ _ _ _ => p_r (by decide +kernel : p_at 60 87 = some (.iload 4)) rfl,
  fun _ _ _ _ _ _ _ _ => p_rcv (nl := 2) (by decide +kernel : p_at 60 89 = some (.invokevirtual 76)) (by decide +kernel : p_inv (p_own 60) 76 = some (1, 24, 2)) (by decide +kernel) (rfl : p_ob 4 = some (.inr (2, [some 11]))) rfl rfl (Nat.le_of_ble_eq_true rfl) (Nat.le_of_ble_eq_true rfl) (Nat.le_of_ble_eq_true rfl) rfl,
  fun _ _ _ _ _ _ _ _ => p_r (by decide +kernel : p_at 60 92 = some (.lsub)) rfl,
  fun _ _ _ _ _ _ _ => p_rlret (by decide +kernel : p_at 60 93 = some (.lreturn)) (by decide +kernel),
  fun _ _ _ _ _ _ => p_r (by decide +kernel : p_at 60 94 = some (.iload_n 2)) rfl,
  fun _ _ _ _ _ _ _ => p_r (by decide +kernel : p_at 60 95 = some (.iconst 1)) rfl,
  fun _ _ _ _ _ _ _ _ => p_r (by decide +kernel : p_at 60 96 = some (.iadd)) rfl,
  fun _ _ _ _ _ _ _ => p_r (by decide +kernel : p_at 60 97 = some (.iload_n 3)) rfl,
  fun _ _ _ _ _ _ _ _ => p_rb2 (c := fun x y => decide (y ≤ x)) (off := 10) (by decide +kernel : p_at 60 98 = some (.if_icmp .ge 10)) (by decide +kernel) rfl rfl rfl,
  fun _ _ _ _ _ _ => p_r (by decide +kernel : p_at 60 101 = some (.iload 4)) rfl,
  fun _ _ _ _ _ _ _ => p_r (by decide +kernel : p_at 60 103 = some (.iconst 2)) rfl,
  fun _ _ _ _ _ _ _ _ => p_r (by decide +kernel : p_at 60 104 = some (.iadd)) rfl,
  fun _ _ _ _ _ _ _ => p_rgo (by decide +kernel : p_at 60 105 = some (.goto 5)) (by decide +kernel),
  fun _ _ _ _ _ _ => p_r (by decide +kernel : p_at 60 108 = some (.iload 4)) rfl,
  fun _ _ _ _ _ _ _ => p_r (by decide +kernel : p_at 60 110 = some (.istore 5)) rfl,
  fun _ _ _ _ _ _ _ => p_rldcJ (by decide +kernel : p_at 60 112 = some (.ldc2_w 163)) (by decide +kernel),
  fun _ _ _ _ _ _ _ _ => p_r (by decide +kernel : p_at 60 115 = some (.aload_n 0)) rfl,
  fun _ _ _ _ _ _ _ _ => p_rgf (f := some 4) (by decide +kernel : p_at 60 116 = some (.getfield 26)) (by decide +kernel : p_fld (p_own 60) 26 = some (4, 2)) (rfl : p_ob 0 = some (.inr (4, [some 1, some 2, some 4, some 3, some 5, some 6, some 7, some 19]))) rfl,
  fun _ _ _ _ _ _ _ _ => p_r (by decide +kernel : p_at 60 119 = some (.iload 4)) rfl,
  fun _ _ _ _ _ _ _ _ _ => p_r (by decide +kernel : p_at 60 121 = some (.iconst 1)) rfl,
  fun _ _ _ _ _ _ _ _ _ _ => p_r (by decide +kernel : p_at 60 122 = some (.iadd)) rfl,
  fun _ _ _ _ _ _ _ _ _ => p_rcv (nl := 2) (by decide +kernel : p_at 60 123 = some (.invokevirtual 76)) (by decide +kernel : p_inv (p_own 60) 76 = some (1, 24, 2)) (by decide +kernel) (rfl : p_ob 4 = some (.inr (2, [some 11]))) rfl rfl (Nat.le_of_ble_eq_true rfl) (Nat.le_of_ble_eq_true rfl) (Nat.le_of_ble_eq_true rfl) rfl,
  fun _ _ _ _ _ _ _ _ _ => p_r (by decide +kernel : p_at 60 126 = some (.lmul)) rfl,
  fun _ _ _ _ _ _ _ _ => p_r (by decide +kernel : p_at 60 127 = some (.aload_n 0)) rfl,
  fun _ _ _ _ _ _ _ _ => p_rgf (f := some 4) (by decide +kernel : p_at 60 128 = some (.getfield 26)) (by decide +kernel : p_fld (p_own 60) 26 = some (4, 2)) (rfl : p_ob 0 = some (.inr (4, [some 1, some 2, some 4, some 3, some 5, some 6, some 7, some 19]))) rfl,
  fun _ _ _ _ _ _ _ _ => p_r (by decide +kernel : p_at 60 131 = some (.iload 4)) rfl,
  fun _ _ _ _ _ _ _ _ _ => p_rcv (nl := 2) (by decide +kernel : p_at 60 133 = some (.invokevirtual 76)) (by decide +kernel : p_inv (p_own 60) 76 = some (1, 24, 2)) (by decide +kernel) (rfl : p_ob 4 = some (.inr (2, [some 11]))) rfl rfl (Nat.le_of_ble_eq_true rfl) (Nat.le_of_ble_eq_true rfl) (Nat.le_of_ble_eq_true rfl) rfl,
  fun _ _ _ _ _ _ _ _ _ => p_r (by decide +kernel : p_at 60 136 = some (.lsub)) rfl,
  fun _ _ _ _ _ _ _ _ => p_r (by decide +kernel : p_at 60 137 = some (.aload_n 0)) rfl,
  fun _ _ _ _ _ _ _ _ => p_rgf (f := some 4) (by decide +kernel : p_at 60 138 = some (.getfield 26)) (by decide +kernel : p_fld (p_own 60) 26 = some (4, 2)) (rfl : p_ob 0 = some (.inr (4, [some 1, some 2, some 4, some 3, some 5, some 6, some 7, some 19]))) rfl,
  fun _ _ _ _ _ _ _ _ => p_r (by decide +kernel : p_at 60 141 = some (.iload 5)) rfl,
  fun _ _ _ _ _ _ _ _ _ => p_rcv (nl := 2) (by decide +kernel : p_at 60 143 = some (.invokevirtual 76)) (by decide +kernel : p_inv (p_own 60) 76 = some (1, 24, 2)) (by decide +kernel) (rfl : p_ob 4 = some (.inr (2, [some 11]))) rfl rfl (Nat.le_of_ble_eq_true rfl) (Nat.le_of_ble_eq_true rfl) (Nat.le_of_ble_eq_true rfl) rfl,
  fun _ _ _ _ _ _ _ _ _ => p_r (by decide +kernel : p_at 60 146 = some (.lsub)) rfl,
  fun _ _ _ _ _ _ _ _ => p_r (by decide +kernel : p_at 60 147 = some (.lstore 6)) rfl,
  fun _ _ _ _ _ _ _ _ => p_r (by decide +kernel : p_at 60 149 = some (.lload 6)) rfl,
  fun _ _ _ _ _ _ _ _ _ => p_r (by decide +kernel : p_at 60 151 = some (.lconst 1)) rfl,
  fun _ _ _ _ _ _ _ _ _ _ => p_r (by decide +kernel : p_at 60 152 = some (.ladd)) rfl,
  fun _ _ _ _ _ _ _ _ _ => p_r (by decide +kernel : p_at 60 153 = some (.iconst 1)) rfl,
  fun _ _ _ _ _ _ _ _ _ _ => p_r (by decide +kernel : p_at 60 154 = some (.lshr)) rfl,
  fun _ _ _ _ _ _ _ _ _ => p_rlret (by decide +kernel : p_at 60 155 = some (.lreturn)) (by decide +kernel)⟩
-- 71: requireNode
theorem M71 :
  (∀ (scr : pX) (w : pW) (x1 : Int32), p_ev scr 71 0 [.ref 0, .int x1] [] w = p_ev scr 71 1 [.ref 0, .int x1] [.ref 0] w) ∧
  (∀ (scr : pX) (w : pW) (x1 : Int32), p_ev scr 71 1 [.ref 0, .int x1] [.ref 0] w = p_ev scr 71 4 [.ref 0, .int x1] [.ref 1] w) ∧
  (∀ (scr : pX) (w : pW) (x1 : Int32), p_ev scr 71 4 [.ref 0, .int x1] [.ref 1] w = p_ev scr 71 5 [.ref 0, .int x1] [.int x1, .ref 1] w) ∧
  (∀ (scr : pX) (w : pW) (x1 : Int32) (s0 : Int32), p_ev scr 71 5 [.ref 0, .int x1] [.int s0, .ref 1] w = p_bnd scr 71 5 8 [.ref 0, .int x1] [] (p_ev none 32 0 [.ref 1, .int s0] [] w)) ∧
  (∀ (scr : pX) (w : pW) (x1 : Int32) (s0 : Int32), p_ev scr 71 8 [.ref 0, .int x1] [.int s0] w = if ¬ s0 = nI 0 then p_ev scr 71 21 [.ref 0, .int x1] [] w else p_ev scr 71 11 [.ref 0, .int x1] [] w) ∧
  (∀ (scr : pX) (w : pW) (x1 : Int32), p_ev scr 71 11 [.ref 0, .int x1] [] w = some (.inr (.inl 2), w, 1)) ∧
  (∀ (scr : pX) (w : pW) (x1 : Int32), p_ev scr 71 21 [.ref 0, .int x1] [] w = some (.inl none, w, 0)) :=
  ⟨fun _ _ _ => p_r (by decide +kernel : p_at 71 0 = some (.aload_n 0)) rfl,
  fun _ _ _ => p_rgf (f := some 1) (by decide +kernel : p_at 71 1 = some (.getfield 10)) (by decide +kernel : p_fld (p_own 71) 10 = some (4, 0)) (rfl : p_ob 0 = some (.inr (4, [some 1, some 2, some 4, some 3, some 5, some 6, some 7, some 19]))) rfl,
  fun _ _ _ => p_r (by decide +kernel : p_at 71 4 = some (.iload_n 1)) rfl,
  fun _ _ _ _ => p_rcv (nl := 2) (by decide +kernel : p_at 71 5 = some (.invokevirtual 122)) (by decide +kernel : p_inv (p_own 71) 122 = some (1, 32, 2)) (by decide +kernel) (rfl : p_ob 1 = some (.inr (3, [some 18, none]))) rfl rfl (Nat.le_of_ble_eq_true rfl) (Nat.le_of_ble_eq_true rfl) (Nat.le_of_ble_eq_true rfl) rfl,
  fun _ _ _ _ => p_rb1 (c := fun x => decide (¬ x = 0)) (off := 13) (by decide +kernel : p_at 71 8 = some (.ifCond .ne 13)) (by decide +kernel) rfl rfl rfl,
  fun _ _ _ => p_rnew (by decide +kernel : p_at 71 11 = some (.new 128)) (by decide +kernel) (by decide +kernel : p_at 71 15 = some (.ldc 215)) (by decide +kernel : p_at 71 17 = some (.invokespecial 132)) (by decide +kernel) (by decide +kernel) (by decide +kernel),
  fun _ _ _ => p_rvret (by decide +kernel : p_at 71 21 = some (.return_)) (by decide +kernel)⟩
-- 72: requireLeaf
theorem M72 :
  (∀ (scr : pX) (w : pW) (x1 : Int32), p_ev scr 72 0 [.ref 0, .int x1] [] w = p_ev scr 72 1 [.ref 0, .int x1] [.ref 0] w) ∧
  (∀ (scr : pX) (w : pW) (x1 : Int32), p_ev scr 72 1 [.ref 0, .int x1] [.ref 0] w = p_ev scr 72 4 [.ref 0, .int x1] [.ref 1] w) ∧
  (∀ (scr : pX) (w : pW) (x1 : Int32), p_ev scr 72 4 [.ref 0, .int x1] [.ref 1] w = p_ev scr 72 5 [.ref 0, .int x1] [.int x1, .ref 1] w) ∧
  (∀ (scr : pX) (w : pW) (x1 : Int32) (s0 : Int32), p_ev scr 72 5 [.ref 0, .int x1] [.int s0, .ref 1] w = p_bnd scr 72 5 8 [.ref 0, .int x1] [] (p_ev none 33 0 [.ref 1, .int s0] [] w)) ∧
  (∀ (scr : pX) (w : pW) (x1 : Int32) (s0 : Int32), p_ev scr 72 8 [.ref 0, .int x1] [.int s0] w = if s0 = nI 0 then p_ev scr 72 21 [.ref 0, .int x1] [] w else p_ev scr 72 11 [.ref 0, .int x1] [] w) ∧
  (∀ (scr : pX) (w : pW) (x1 : Int32), p_ev scr 72 11 [.ref 0, .int x1] [] w = some (.inr (.inl 1), w, 1)) ∧
  (∀ (scr : pX) (w : pW) (x1 : Int32), p_ev scr 72 21 [.ref 0, .int x1] [] w = some (.inl none, w, 0)) :=
  ⟨fun _ _ _ => p_r (by decide +kernel : p_at 72 0 = some (.aload_n 0)) rfl,
  fun _ _ _ => p_rgf (f := some 1) (by decide +kernel : p_at 72 1 = some (.getfield 10)) (by decide +kernel : p_fld (p_own 72) 10 = some (4, 0)) (rfl : p_ob 0 = some (.inr (4, [some 1, some 2, some 4, some 3, some 5, some 6, some 7, some 19]))) rfl,
  fun _ _ _ => p_r (by decide +kernel : p_at 72 4 = some (.iload_n 1)) rfl,
  fun _ _ _ _ => p_rcv (nl := 2) (by decide +kernel : p_at 72 5 = some (.invokevirtual 114)) (by decide +kernel : p_inv (p_own 72) 114 = some (1, 33, 2)) (by decide +kernel) (rfl : p_ob 1 = some (.inr (3, [some 18, none]))) rfl rfl (Nat.le_of_ble_eq_true rfl) (Nat.le_of_ble_eq_true rfl) (Nat.le_of_ble_eq_true rfl) rfl,
  fun _ _ _ _ => p_rb1 (c := fun x => decide (x = 0)) (off := 13) (by decide +kernel : p_at 72 8 = some (.ifCond .eq 13)) (by decide +kernel) rfl rfl rfl,
  fun _ _ _ => p_rnew (by decide +kernel : p_at 72 11 = some (.new 102)) (by decide +kernel) (by decide +kernel : p_at 72 15 = some (.ldc 217)) (by decide +kernel : p_at 72 17 = some (.invokespecial 106)) (by decide +kernel) (by decide +kernel) (by decide +kernel),
  fun _ _ _ => p_rvret (by decide +kernel : p_at 72 21 = some (.return_)) (by decide +kernel)⟩
-- 73: requireUnsplitRoot
theorem M73 :
  (∀ (scr : pX) (w : pW), p_ev scr 73 0 [.ref 0] [] w = p_ev scr 73 1 [.ref 0] [.ref 0] w) ∧
  (∀ (scr : pX) (w : pW), p_ev scr 73 1 [.ref 0] [.ref 0] w = p_ev scr 73 4 [.ref 0] [.ref 1] w) ∧
  (∀ (scr : pX) (w : pW), p_ev scr 73 4 [.ref 0] [.ref 1] w = p_ev scr 73 5 [.ref 0] [.int (nI 1), .ref 1] w) ∧
  (∀ (scr : pX) (w : pW) (s0 : Int32), p_ev scr 73 5 [.ref 0] [.int s0, .ref 1] w = p_bnd scr 73 5 8 [.ref 0] [] (p_ev none 33 0 [.ref 1, .int s0] [] w)) ∧
  (∀ (scr : pX) (w : pW) (s0 : Int32), p_ev scr 73 8 [.ref 0] [.int s0] w = if s0 = nI 0 then p_ev scr 73 21 [.ref 0] [] w else p_ev scr 73 11 [.ref 0] [] w) ∧
  (∀ (scr : pX) (w : pW), p_ev scr 73 11 [.ref 0] [] w = some (.inr (.inl 1), w, 1)) ∧
  (∀ (scr : pX) (w : pW), p_ev scr 73 21 [.ref 0] [] w = some (.inl none, w, 0)) :=
  ⟨fun _ _ => p_r (by decide +kernel : p_at 73 0 = some (.aload_n 0)) rfl,
  fun _ _ => p_rgf (f := some 1) (by decide +kernel : p_at 73 1 = some (.getfield 10)) (by decide +kernel : p_fld (p_own 73) 10 = some (4, 0)) (rfl : p_ob 0 = some (.inr (4, [some 1, some 2, some 4, some 3, some 5, some 6, some 7, some 19]))) rfl,
  fun _ _ => p_r (by decide +kernel : p_at 73 4 = some (.iconst 1)) rfl,
  fun _ _ _ => p_rcv (nl := 2) (by decide +kernel : p_at 73 5 = some (.invokevirtual 114)) (by decide +kernel : p_inv (p_own 73) 114 = some (1, 33, 2)) (by decide +kernel) (rfl : p_ob 1 = some (.inr (3, [some 18, none]))) rfl rfl (Nat.le_of_ble_eq_true rfl) (Nat.le_of_ble_eq_true rfl) (Nat.le_of_ble_eq_true rfl) rfl,
  fun _ _ _ => p_rb1 (c := fun x => decide (x = 0)) (off := 13) (by decide +kernel : p_at 73 8 = some (.ifCond .eq 13)) (by decide +kernel) rfl rfl rfl,
  fun _ _ => p_rnew (by decide +kernel : p_at 73 11 = some (.new 102)) (by decide +kernel) (by decide +kernel : p_at 73 15 = some (.ldc 219)) (by decide +kernel : p_at 73 17 = some (.invokespecial 106)) (by decide +kernel) (by decide +kernel) (by decide +kernel),
  fun _ _ => p_rvret (by decide +kernel : p_at 73 21 = some (.return_)) (by decide +kernel)⟩
-- 75: requirePlaceInSignal
theorem M75 :
  (∀ (scr : pX) (w : pW) (x1 : Int32), p_ev scr 75 0 [.ref 0, .int x1] [] w = p_ev scr 75 1 [.ref 0, .int x1] [.ref 0] w) ∧
  (∀ (scr : pX) (w : pW) (x1 : Int32), p_ev scr 75 1 [.ref 0, .int x1] [.ref 0] w = p_ev scr 75 2 [.ref 0, .int x1] [.int x1, .ref 0] w) ∧
  (∀ (scr : pX) (w : pW) (x1 : Int32) (s0 : Int32), p_ev scr 75 2 [.ref 0, .int x1] [.int s0, .ref 0] w = p_ev scr 75 3 [.ref 0, .int x1] [.ref 0, .int s0, .ref 0] w) ∧
  (∀ (scr : pX) (w : pW) (x1 : Int32) (s1 : Int32), p_ev scr 75 3 [.ref 0, .int x1] [.ref 0, .int s1, .ref 0] w = p_ev scr 75 6 [.ref 0, .int x1] [.ref 1, .int s1, .ref 0] w) ∧
  (∀ (scr : pX) (w : pW) (x1 : Int32) (s1 : Int32), p_ev scr 75 6 [.ref 0, .int x1] [.ref 1, .int s1, .ref 0] w = p_bnd scr 75 6 9 [.ref 0, .int x1] [.int s1, .ref 0] (p_ev none 30 0 [.ref 1] [] w)) ∧
  (∀ (scr : pX) (w : pW) (x1 : Int32) (s0 : Int32) (s1 : Int32), p_ev scr 75 9 [.ref 0, .int x1] [.int s0, .int s1, .ref 0] w = p_bnd scr 75 9 12 [.ref 0, .int x1] [] (p_ev none 76 0 [.ref 0, .int s1, .int s0] [] w)) ∧
  (∀ (scr : pX) (w : pW) (x1 : Int32), p_ev scr 75 12 [.ref 0, .int x1] [] w = some (.inl none, w, 0)) :=
  ⟨fun _ _ _ => p_r (by decide +kernel : p_at 75 0 = some (.aload_n 0)) rfl,
  fun _ _ _ => p_r (by decide +kernel : p_at 75 1 = some (.iload_n 1)) rfl,
  fun _ _ _ _ => p_r (by decide +kernel : p_at 75 2 = some (.aload_n 0)) rfl,
  fun _ _ _ _ => p_rgf (f := some 1) (by decide +kernel : p_at 75 3 = some (.getfield 10)) (by decide +kernel : p_fld (p_own 75) 10 = some (4, 0)) (rfl : p_ob 0 = some (.inr (4, [some 1, some 2, some 4, some 3, some 5, some 6, some 7, some 19]))) rfl,
  fun _ _ _ _ => p_rcv (nl := 1) (by decide +kernel : p_at 75 6 = some (.invokevirtual 57)) (by decide +kernel : p_inv (p_own 75) 57 = some (1, 30, 1)) (by decide +kernel) (rfl : p_ob 1 = some (.inr (3, [some 18, none]))) rfl rfl (Nat.le_of_ble_eq_true rfl) (Nat.le_of_ble_eq_true rfl) (Nat.le_of_ble_eq_true rfl) rfl,
  fun _ _ _ _ _ => p_rcv (nl := 3) (by decide +kernel : p_at 75 9 = some (.invokevirtual 150)) (by decide +kernel : p_inv (p_own 75) 150 = some (1, 76, 3)) (by decide +kernel) (rfl : p_ob 0 = some (.inr (4, [some 1, some 2, some 4, some 3, some 5, some 6, some 7, some 19]))) rfl rfl (Nat.le_of_ble_eq_true rfl) (Nat.le_of_ble_eq_true rfl) (Nat.le_of_ble_eq_true rfl) rfl,
  fun _ _ _ => p_rvret (by decide +kernel : p_at 75 12 = some (.return_)) (by decide +kernel)⟩
-- 76: requirePlaceBelow
theorem M76 :
  (∀ (scr : pX) (w : pW) (x1 : Int32) (x2 : Int32), p_ev scr 76 0 [.ref 0, .int x1, .int x2] [] w = p_ev scr 76 1 [.ref 0, .int x1, .int x2] [.int x1] w) ∧
  (∀ (scr : pX) (w : pW) (x1 : Int32) (x2 : Int32) (s0 : Int32), p_ev scr 76 1 [.ref 0, .int x1, .int x2] [.int s0] w = if s0 < nI 0 then p_ev scr 76 9 [.ref 0, .int x1, .int x2] [] w else p_ev scr 76 4 [.ref 0, .int x1, .int x2] [] w) ∧
  (∀ (scr : pX) (w : pW) (x1 : Int32) (x2 : Int32), p_ev scr 76 4 [.ref 0, .int x1, .int x2] [] w = p_ev scr 76 5 [.ref 0, .int x1, .int x2] [.int x1] w) ∧
  (∀ (scr : pX) (w : pW) (x1 : Int32) (x2 : Int32) (s0 : Int32), p_ev scr 76 5 [.ref 0, .int x1, .int x2] [.int s0] w = p_ev scr 76 6 [.ref 0, .int x1, .int x2] [.int x2, .int s0] w) ∧
  (∀ (scr : pX) (w : pW) (x1 : Int32) (x2 : Int32) (s0 : Int32) (s1 : Int32), p_ev scr 76 6 [.ref 0, .int x1, .int x2] [.int s0, .int s1] w = if s1 < s0 then p_ev scr 76 19 [.ref 0, .int x1, .int x2] [] w else p_ev scr 76 9 [.ref 0, .int x1, .int x2] [] w) ∧
  (∀ (scr : pX) (w : pW) (x1 : Int32) (x2 : Int32), p_ev scr 76 9 [.ref 0, .int x1, .int x2] [] w = some (.inr (.inl 2), w, 1)) ∧
  (∀ (scr : pX) (w : pW) (x1 : Int32) (x2 : Int32), p_ev scr 76 19 [.ref 0, .int x1, .int x2] [] w = some (.inl none, w, 0)) :=
  ⟨fun _ _ _ _ => p_r (by decide +kernel : p_at 76 0 = some (.iload_n 1)) rfl,
  fun _ _ _ _ _ => p_rb1 (c := fun x => decide (x < 0)) (off := 8) (by decide +kernel : p_at 76 1 = some (.ifCond .lt 8)) (by decide +kernel) rfl rfl rfl,
  fun _ _ _ _ => p_r (by decide +kernel : p_at 76 4 = some (.iload_n 1)) rfl,
  fun _ _ _ _ _ => p_r (by decide +kernel : p_at 76 5 = some (.iload_n 2)) rfl,
  fun _ _ _ _ _ _ => p_rb2 (c := fun x y => decide (x < y)) (off := 13) (by decide +kernel : p_at 76 6 = some (.if_icmp .lt 13)) (by decide +kernel) rfl rfl rfl,
  fun _ _ _ _ => p_rnew (by decide +kernel : p_at 76 9 = some (.new 128)) (by decide +kernel) (by decide +kernel : p_at 76 13 = some (.ldc 227)) (by decide +kernel : p_at 76 15 = some (.invokespecial 132)) (by decide +kernel) (by decide +kernel) (by decide +kernel),
  fun _ _ _ _ => p_rvret (by decide +kernel : p_at 76 19 = some (.return_)) (by decide +kernel)⟩
-- 80: splitLeaf
theorem M80 :
  (∀ (scr : pX) (w : pW) (x1 : Int32), p_ev scr 80 0 [.ref 0, .int x1] [] w = p_ev scr 80 1 [.ref 0, .int x1] [.ref 0] w) ∧
  (∀ (scr : pX) (w : pW) (x1 : Int32), p_ev scr 80 1 [.ref 0, .int x1] [.ref 0] w = p_ev scr 80 4 [.ref 0, .int x1] [.ref 2] w) ∧
  (∀ (scr : pX) (w : pW) (x1 : Int32), p_ev scr 80 4 [.ref 0, .int x1] [.ref 2] w = p_ev scr 80 5 [.ref 0, .int x1] [.ref 0, .ref 2] w) ∧
  (∀ (scr : pX) (w : pW) (x1 : Int32), p_ev scr 80 5 [.ref 0, .int x1] [.ref 0, .ref 2] w = p_ev scr 80 8 [.ref 0, .int x1] [.ref 4, .ref 2] w) ∧
  (∀ (scr : pX) (w : pW) (x1 : Int32), p_ev scr 80 8 [.ref 0, .int x1] [.ref 4, .ref 2] w = p_ev scr 80 9 [.ref 0, .int x1] [.ref 0, .ref 4, .ref 2] w) ∧
  (∀ (scr : pX) (w : pW) (x1 : Int32), p_ev scr 80 9 [.ref 0, .int x1] [.ref 0, .ref 4, .ref 2] w = p_ev scr 80 12 [.ref 0, .int x1] [.ref 1, .ref 4, .ref 2] w) ∧
  (∀ (scr : pX) (w : pW) (x1 : Int32), p_ev scr 80 12 [.ref 0, .int x1] [.ref 1, .ref 4, .ref 2] w = p_ev scr 80 13 [.ref 0, .int x1] [.int x1, .ref 1, .ref 4, .ref 2] w) ∧
  (∀ (scr : pX) (w : pW) (x1 : Int32) (s0 : Int32), p_ev scr 80 13 [.ref 0, .int x1] [.int s0, .ref 1, .ref 4, .ref 2] w = p_bnd scr 80 13 16 [.ref 0, .int x1] [.ref 4, .ref 2] (p_ev none 40 0 [.ref 1, .int s0] [] w)) ∧
  (∀ (scr : pX) (w : pW) (x1 : Int32) (s0 : Int32), p_ev scr 80 16 [.ref 0, .int x1] [.int s0, .ref 4, .ref 2] w = p_ev scr 80 17 [.ref 0, .int x1] [.ref 0, .int s0, .ref 4, .ref 2] w) ∧
  (∀ (scr : pX) (w : pW) (x1 : Int32) (s1 : Int32), p_ev scr 80 17 [.ref 0, .int x1] [.ref 0, .int s1, .ref 4, .ref 2] w = p_ev scr 80 20 [.ref 0, .int x1] [.ref 1, .int s1, .ref 4, .ref 2] w) ∧
  (∀ (scr : pX) (w : pW) (x1 : Int32) (s1 : Int32), p_ev scr 80 20 [.ref 0, .int x1] [.ref 1, .int s1, .ref 4, .ref 2] w = p_ev scr 80 21 [.ref 0, .int x1] [.int x1, .ref 1, .int s1, .ref 4, .ref 2] w) ∧
  (∀ (scr : pX) (w : pW) (x1 : Int32) (s0 : Int32) (s2 : Int32), p_ev scr 80 21 [.ref 0, .int x1] [.int s0, .ref 1, .int s2, .ref 4, .ref 2] w = p_bnd scr 80 21 24 [.ref 0, .int x1] [.int s2, .ref 4, .ref 2] (p_ev none 39 0 [.ref 1, .int s0] [] w)) ∧
  (∀ (scr : pX) (w : pW) (x1 : Int32) (s0 : Int32) (s1 : Int32), p_ev scr 80 24 [.ref 0, .int x1] [.int s0, .int s1, .ref 4, .ref 2] w = p_ev scr 80 25 [.ref 0, .int x1] [.int (nI 2), .int s0, .int s1, .ref 4, .ref 2] w) ∧
  (∀ (scr : pX) (w : pW) (x1 : Int32) (s0 : Int32) (s1 : Int32) (s2 : Int32), ¬ s0 = 0 → p_ev scr 80 25 [.ref 0, .int x1] [.int s0, .int s1, .int s2, .ref 4, .ref 2] w = p_ev scr 80 26 [.ref 0, .int x1] [.int (s1 / s0), .int s2, .ref 4, .ref 2] w) ∧
  (∀ (scr : pX) (w : pW) (x1 : Int32) (s0 : Int32) (s1 : Int32), p_ev scr 80 26 [.ref 0, .int x1] [.int s0, .int s1, .ref 4, .ref 2] w = p_bnd scr 80 26 29 [.ref 0, .int x1] [] (p_ev none 17 0 [.ref 2, .ref 4, .int s1, .int s0, p_U] [] w)) ∧
  (∀ (scr : pX) (w : pW) (x1 : Int32), p_ev scr 80 29 [.ref 0, .int x1] [] w = p_ev scr 80 30 [.ref 0, .int x1] [.ref 0] w) ∧
  (∀ (scr : pX) (w : pW) (x1 : Int32), p_ev scr 80 30 [.ref 0, .int x1] [.ref 0] w = p_ev scr 80 33 [.ref 0, .int x1] [.ref 1] w) ∧
  (∀ (scr : pX) (w : pW) (x1 : Int32), p_ev scr 80 33 [.ref 0, .int x1] [.ref 1] w = p_ev scr 80 34 [.ref 0, .int x1] [.int x1, .ref 1] w) ∧
  (∀ (scr : pX) (w : pW) (x1 : Int32) (s0 : Int32), p_ev scr 80 34 [.ref 0, .int x1] [.int s0, .ref 1] w = p_bnd scr 80 34 37 [.ref 0, .int x1] [] (p_ev none 35 0 [.ref 1, .int s0] [] w)) ∧
  (∀ (scr : pX) (w : pW) (x1 : Int32), p_ev scr 80 37 [.ref 0, .int x1] [] w = some (.inl none, w, 0)) :=
  ⟨fun _ _ _ => p_r (by decide +kernel : p_at 80 0 = some (.aload_n 0)) rfl,
  fun _ _ _ => p_rgf (f := some 2) (by decide +kernel : p_at 80 1 = some (.getfield 19)) (by decide +kernel : p_fld (p_own 80) 19 = some (4, 1)) (rfl : p_ob 0 = some (.inr (4, [some 1, some 2, some 4, some 3, some 5, some 6, some 7, some 19]))) rfl,
  fun _ _ _ => p_r (by decide +kernel : p_at 80 4 = some (.aload_n 0)) rfl,
  fun _ _ _ => p_rgf (f := some 4) (by decide +kernel : p_at 80 5 = some (.getfield 26)) (by decide +kernel : p_fld (p_own 80) 26 = some (4, 2)) (rfl : p_ob 0 = some (.inr (4, [some 1, some 2, some 4, some 3, some 5, some 6, some 7, some 19]))) rfl,
  fun _ _ _ => p_r (by decide +kernel : p_at 80 8 = some (.aload_n 0)) rfl,
  fun _ _ _ => p_rgf (f := some 1) (by decide +kernel : p_at 80 9 = some (.getfield 10)) (by decide +kernel : p_fld (p_own 80) 10 = some (4, 0)) (rfl : p_ob 0 = some (.inr (4, [some 1, some 2, some 4, some 3, some 5, some 6, some 7, some 19]))) rfl,
  fun _ _ _ => p_r (by decide +kernel : p_at 80 12 = some (.iload_n 1)) rfl,
  fun _ _ _ _ => p_rcv (nl := 2) (by decide +kernel : p_at 80 13 = some (.invokevirtual 154)) (by decide +kernel : p_inv (p_own 80) 154 = some (1, 40, 2)) (by decide +kernel) (rfl : p_ob 1 = some (.inr (3, [some 18, none]))) rfl rfl (Nat.le_of_ble_eq_true rfl) (Nat.le_of_ble_eq_true rfl) (Nat.le_of_ble_eq_true rfl) rfl,
  fun _ _ _ _ => p_r (by decide +kernel : p_at 80 16 = some (.aload_n 0)) rfl,
  fun _ _ _ _ => p_rgf (f := some 1) (by decide +kernel : p_at 80 17 = some (.getfield 10)) (by decide +kernel : p_fld (p_own 80) 10 = some (4, 0)) (rfl : p_ob 0 = some (.inr (4, [some 1, some 2, some 4, some 3, some 5, some 6, some 7, some 19]))) rfl,
  fun _ _ _ _ => p_r (by decide +kernel : p_at 80 20 = some (.iload_n 1)) rfl,
  fun _ _ _ _ _ => p_rcv (nl := 2) (by decide +kernel : p_at 80 21 = some (.invokevirtual 110)) (by decide +kernel : p_inv (p_own 80) 110 = some (1, 39, 2)) (by decide +kernel) (rfl : p_ob 1 = some (.inr (3, [some 18, none]))) rfl rfl (Nat.le_of_ble_eq_true rfl) (Nat.le_of_ble_eq_true rfl) (Nat.le_of_ble_eq_true rfl) rfl,
  fun _ _ _ _ _ => p_r (by decide +kernel : p_at 80 24 = some (.iconst 2)) rfl,
  fun _ _ _ _ _ _ hp => p_ridiv (by decide +kernel : p_at 80 25 = some (.idiv)) hp,
  fun _ _ _ _ _ => p_rcv (nl := 5) (by decide +kernel : p_at 80 26 = some (.invokevirtual 235)) (by decide +kernel : p_inv (p_own 80) 235 = some (1, 17, 4)) (by decide +kernel) (rfl : p_ob 2 = some (.inr (1, [some 8, none]))) rfl rfl (Nat.le_of_ble_eq_true rfl) (Nat.le_of_ble_eq_true rfl) (Nat.le_of_ble_eq_true rfl) rfl,
  fun _ _ _ => p_r (by decide +kernel : p_at 80 29 = some (.aload_n 0)) rfl,
  fun _ _ _ => p_rgf (f := some 1) (by decide +kernel : p_at 80 30 = some (.getfield 10)) (by decide +kernel : p_fld (p_own 80) 10 = some (4, 0)) (rfl : p_ob 0 = some (.inr (4, [some 1, some 2, some 4, some 3, some 5, some 6, some 7, some 19]))) rfl,
  fun _ _ _ => p_r (by decide +kernel : p_at 80 33 = some (.iload_n 1)) rfl,
  fun _ _ _ _ => p_rcv (nl := 2) (by decide +kernel : p_at 80 34 = some (.invokevirtual 239)) (by decide +kernel : p_inv (p_own 80) 239 = some (1, 35, 2)) (by decide +kernel) (rfl : p_ob 1 = some (.inr (3, [some 18, none]))) rfl rfl (Nat.le_of_ble_eq_true rfl) (Nat.le_of_ble_eq_true rfl) (Nat.le_of_ble_eq_true rfl) rfl,
  fun _ _ _ => p_rvret (by decide +kernel : p_at 80 37 = some (.return_)) (by decide +kernel)⟩
-- 81: joinBranch
theorem M81 :
  (∀ (scr : pX) (w : pW) (x1 : Int32), p_ev scr 81 0 [.ref 0, .int x1, p_U] [] w = p_ev scr 81 1 [.ref 0, .int x1, p_U] [.ref 0] w) ∧
  (∀ (scr : pX) (w : pW) (x1 : Int32), p_ev scr 81 1 [.ref 0, .int x1, p_U] [.ref 0] w = p_ev scr 81 2 [.ref 0, .int x1, p_U] [.ref 0, .ref 0] w) ∧
  (∀ (scr : pX) (w : pW) (x1 : Int32), p_ev scr 81 2 [.ref 0, .int x1, p_U] [.ref 0, .ref 0] w = p_ev scr 81 5 [.ref 0, .int x1, p_U] [.ref 4, .ref 0] w) ∧
  (∀ (scr : pX) (w : pW) (x1 : Int32), p_ev scr 81 5 [.ref 0, .int x1, p_U] [.ref 4, .ref 0] w = p_ev scr 81 6 [.ref 0, .int x1, p_U] [.int x1, .ref 4, .ref 0] w) ∧
  (∀ (scr : pX) (w : pW) (x1 : Int32) (s0 : Int32), p_ev scr 81 6 [.ref 0, .int x1, p_U] [.int s0, .ref 4, .ref 0] w = p_bnd scr 81 6 9 [.ref 0, .int x1, p_U] [] (p_ev none 82 0 [.ref 0, .ref 4, .int s0, p_U, p_U] [] w)) ∧
  (∀ (scr : pX) (w : pW) (x1 : Int32) (s0 : Int32), p_ev scr 81 9 [.ref 0, .int x1, p_U] [.int s0] w = p_ev scr 81 10 [.ref 0, .int x1, .int s0] [] w) ∧
  (∀ (scr : pX) (w : pW) (x1 : Int32) (x2 : Int32), p_ev scr 81 10 [.ref 0, .int x1, .int x2] [] w = p_ev scr 81 11 [.ref 0, .int x1, .int x2] [.ref 0] w) ∧
  (∀ (scr : pX) (w : pW) (x1 : Int32) (x2 : Int32), p_ev scr 81 11 [.ref 0, .int x1, .int x2] [.ref 0] w = p_ev scr 81 14 [.ref 0, .int x1, .int x2] [.ref 1] w) ∧
  (∀ (scr : pX) (w : pW) (x1 : Int32) (x2 : Int32), p_ev scr 81 14 [.ref 0, .int x1, .int x2] [.ref 1] w = p_ev scr 81 15 [.ref 0, .int x1, .int x2] [.int x1, .ref 1] w) ∧
  (∀ (scr : pX) (w : pW) (x1 : Int32) (x2 : Int32) (s0 : Int32), p_ev scr 81 15 [.ref 0, .int x1, .int x2] [.int s0, .ref 1] w = p_bnd scr 81 15 18 [.ref 0, .int x1, .int x2] [] (p_ev none 36 0 [.ref 1, .int s0, p_U] [] w)) ∧
  (∀ (scr : pX) (w : pW) (x1 : Int32) (x2 : Int32), p_ev scr 81 18 [.ref 0, .int x1, .int x2] [] w = p_ev scr 81 19 [.ref 0, .int x1, .int x2] [.int x2] w) ∧
  (∀ (scr : pX) (w : pW) (x1 : Int32) (x2 : Int32) (s0 : Int32), p_ev scr 81 19 [.ref 0, .int x1, .int x2] [.int s0] w = some (.inl (some (.int s0)), w, 0)) :=
  ⟨fun _ _ _ => p_r (by decide +kernel : p_at 81 0 = some (.aload_n 0)) rfl,
  fun _ _ _ => p_r (by decide +kernel : p_at 81 1 = some (.aload_n 0)) rfl,
  fun _ _ _ => p_rgf (f := some 4) (by decide +kernel : p_at 81 2 = some (.getfield 26)) (by decide +kernel : p_fld (p_own 81) 26 = some (4, 2)) (rfl : p_ob 0 = some (.inr (4, [some 1, some 2, some 4, some 3, some 5, some 6, some 7, some 19]))) rfl,
  fun _ _ _ => p_r (by decide +kernel : p_at 81 5 = some (.iload_n 1)) rfl,
  fun _ _ _ _ => p_rcv (nl := 5) (by decide +kernel : p_at 81 6 = some (.invokevirtual 242)) (by decide +kernel : p_inv (p_own 81) 242 = some (1, 82, 3)) (by decide +kernel) (rfl : p_ob 0 = some (.inr (4, [some 1, some 2, some 4, some 3, some 5, some 6, some 7, some 19]))) rfl rfl (Nat.le_of_ble_eq_true rfl) (Nat.le_of_ble_eq_true rfl) (Nat.le_of_ble_eq_true rfl) rfl,
  fun _ _ _ _ => p_r (by decide +kernel : p_at 81 9 = some (.istore_n 2)) rfl,
  fun _ _ _ _ => p_r (by decide +kernel : p_at 81 10 = some (.aload_n 0)) rfl,
  fun _ _ _ _ => p_rgf (f := some 1) (by decide +kernel : p_at 81 11 = some (.getfield 10)) (by decide +kernel : p_fld (p_own 81) 10 = some (4, 0)) (rfl : p_ob 0 = some (.inr (4, [some 1, some 2, some 4, some 3, some 5, some 6, some 7, some 19]))) rfl,
  fun _ _ _ _ => p_r (by decide +kernel : p_at 81 14 = some (.iload_n 1)) rfl,
  fun _ _ _ _ _ => p_rcv (nl := 3) (by decide +kernel : p_at 81 15 = some (.invokevirtual 246)) (by decide +kernel : p_inv (p_own 81) 246 = some (1, 36, 2)) (by decide +kernel) (rfl : p_ob 1 = some (.inr (3, [some 18, none]))) rfl rfl (Nat.le_of_ble_eq_true rfl) (Nat.le_of_ble_eq_true rfl) (Nat.le_of_ble_eq_true rfl) rfl,
  fun _ _ _ _ => p_r (by decide +kernel : p_at 81 18 = some (.iload_n 2)) rfl,
  fun _ _ _ _ _ => p_riret (by decide +kernel : p_at 81 19 = some (.ireturn)) (by decide +kernel)⟩
-- 82: uniteBranch
theorem M82 (r : Nat) (hr : p_rw r) :
  (∀ (scr : pX) (w : pW) (x2 : Int32), p_ev scr 82 0 [.ref 0, .ref r, .int x2, p_U, p_U] [] w = p_ev scr 82 1 [.ref 0, .ref r, .int x2, p_U, p_U] [.int (nI 0)] w) ∧
  (∀ (scr : pX) (w : pW) (x2 : Int32) (s0 : Int32), p_ev scr 82 1 [.ref 0, .ref r, .int x2, p_U, p_U] [.int s0] w = p_ev scr 82 2 [.ref 0, .ref r, .int x2, .int s0, p_U] [] w) ∧
  (∀ (scr : pX) (w : pW) (x2 : Int32) (x3 : Int32), p_ev scr 82 2 [.ref 0, .ref r, .int x2, .int x3, p_U] [] w = p_ev scr 82 4 [.ref 0, .ref r, .int x2, .int x3, p_U] [.int (nI 7)] w) ∧
  (∀ (scr : pX) (w : pW) (x2 : Int32) (x3 : Int32) (s0 : Int32), p_ev scr 82 4 [.ref 0, .ref r, .int x2, .int x3, p_U] [.int s0] w = p_ev scr 82 6 [.ref 0, .ref r, .int x2, .int x3, .int s0] [] w) ∧
  (∀ (scr : pX) (w : pW) (x2 : Int32) (x3 : Int32) (x4 : Int32) (s0 : Int32), p_ev scr 82 8 [.ref 0, .ref r, .int x2, .int x3, .int x4] [.int s0] w = p_ev scr 82 9 [.ref 0, .ref r, .int x2, .int x3, .int x4] [.int (nI 1), .int s0] w) ∧
  (∀ (scr : pX) (w : pW) (x2 : Int32) (x3 : Int32) (x4 : Int32) (s0 : Int32) (s1 : Int32), p_ev scr 82 9 [.ref 0, .ref r, .int x2, .int x3, .int x4] [.int s0, .int s1] w = if s1 < s0 then p_ev scr 82 74 [.ref 0, .ref r, .int x2, .int x3, .int x4] [] w else p_ev scr 82 12 [.ref 0, .ref r, .int x2, .int x3, .int x4] [] w) ∧
  (∀ (scr : pX) (w : pW) (x2 : Int32) (x3 : Int32) (x4 : Int32), p_ev scr 82 12 [.ref 0, .ref r, .int x2, .int x3, .int x4] [] w = p_ev scr 82 13 [.ref 0, .ref r, .int x2, .int x3, .int x4] [.ref 0] w) ∧
  (∀ (scr : pX) (w : pW) (x2 : Int32) (x3 : Int32) (x4 : Int32), p_ev scr 82 13 [.ref 0, .ref r, .int x2, .int x3, .int x4] [.ref 0] w = p_ev scr 82 16 [.ref 0, .ref r, .int x2, .int x3, .int x4] [.ref 1] w) ∧
  (∀ (scr : pX) (w : pW) (x2 : Int32) (x3 : Int32) (x4 : Int32), p_ev scr 82 16 [.ref 0, .ref r, .int x2, .int x3, .int x4] [.ref 1] w = p_ev scr 82 18 [.ref 0, .ref r, .int x2, .int x3, .int x4] [.int x4, .ref 1] w) ∧
  (∀ (scr : pX) (w : pW) (x2 : Int32) (x3 : Int32) (x4 : Int32) (s0 : Int32), p_ev scr 82 18 [.ref 0, .ref r, .int x2, .int x3, .int x4] [.int s0, .ref 1] w = p_bnd scr 82 18 21 [.ref 0, .ref r, .int x2, .int x3, .int x4] [] (p_ev none 33 0 [.ref 1, .int s0] [] w)) ∧
  (∀ (scr : pX) (w : pW) (x2 : Int32) (x3 : Int32) (x4 : Int32) (s0 : Int32), p_ev scr 82 21 [.ref 0, .ref r, .int x2, .int x3, .int x4] [.int s0] w = if s0 = nI 0 then p_ev scr 82 68 [.ref 0, .ref r, .int x2, .int x3, .int x4] [] w else p_ev scr 82 24 [.ref 0, .ref r, .int x2, .int x3, .int x4] [] w) ∧
  (∀ (scr : pX) (w : pW) (x2 : Int32) (x3 : Int32) (x4 : Int32), p_ev scr 82 24 [.ref 0, .ref r, .int x2, .int x3, .int x4] [] w = p_ev scr 82 25 [.ref 0, .ref r, .int x2, .int x3, .int x4] [.ref 0] w) ∧
  (∀ (scr : pX) (w : pW) (x2 : Int32) (x3 : Int32) (x4 : Int32), p_ev scr 82 25 [.ref 0, .ref r, .int x2, .int x3, .int x4] [.ref 0] w = p_ev scr 82 28 [.ref 0, .ref r, .int x2, .int x3, .int x4] [.ref 1] w) ∧
  (∀ (scr : pX) (w : pW) (x2 : Int32) (x3 : Int32) (x4 : Int32), p_ev scr 82 28 [.ref 0, .ref r, .int x2, .int x3, .int x4] [.ref 1] w = p_ev scr 82 30 [.ref 0, .ref r, .int x2, .int x3, .int x4] [.int x4, .ref 1] w) ∧
  (∀ (scr : pX) (w : pW) (x2 : Int32) (x3 : Int32) (x4 : Int32) (s0 : Int32), p_ev scr 82 30 [.ref 0, .ref r, .int x2, .int x3, .int x4] [.int s0, .ref 1] w = p_ev scr 82 31 [.ref 0, .ref r, .int x2, .int x3, .int x4] [.int x2, .int s0, .ref 1] w) ∧
  (∀ (scr : pX) (w : pW) (x2 : Int32) (x3 : Int32) (x4 : Int32) (s0 : Int32) (s1 : Int32), p_ev scr 82 31 [.ref 0, .ref r, .int x2, .int x3, .int x4] [.int s0, .int s1, .ref 1] w = p_bnd scr 82 31 34 [.ref 0, .ref r, .int x2, .int x3, .int x4] [] (p_ev none 37 0 [.ref 1, .int s1, .int s0, p_U] [] w)) ∧
  (∀ (scr : pX) (w : pW) (x2 : Int32) (x3 : Int32) (x4 : Int32) (s0 : Int32), p_ev scr 82 34 [.ref 0, .ref r, .int x2, .int x3, .int x4] [.int s0] w = if s0 = nI 0 then p_ev scr 82 68 [.ref 0, .ref r, .int x2, .int x3, .int x4] [] w else p_ev scr 82 37 [.ref 0, .ref r, .int x2, .int x3, .int x4] [] w) ∧
  (∀ (scr : pX) (w : pW) (x2 : Int32) (x3 : Int32) (x4 : Int32), p_ev scr 82 37 [.ref 0, .ref r, .int x2, .int x3, .int x4] [] w = p_ev scr 82 38 [.ref 0, .ref r, .int x2, .int x3, .int x4] [.ref 0] w) ∧
  (∀ (scr : pX) (w : pW) (x2 : Int32) (x3 : Int32) (x4 : Int32), p_ev scr 82 38 [.ref 0, .ref r, .int x2, .int x3, .int x4] [.ref 0] w = p_ev scr 82 41 [.ref 0, .ref r, .int x2, .int x3, .int x4] [.ref 2] w) ∧
  (∀ (scr : pX) (w : pW) (x2 : Int32) (x3 : Int32) (x4 : Int32), p_ev scr 82 41 [.ref 0, .ref r, .int x2, .int x3, .int x4] [.ref 2] w = p_ev scr 82 42 [.ref 0, .ref r, .int x2, .int x3, .int x4] [.ref r, .ref 2] w) ∧
  (∀ (scr : pX) (w : pW) (x2 : Int32) (x3 : Int32) (x4 : Int32), p_ev scr 82 42 [.ref 0, .ref r, .int x2, .int x3, .int x4] [.ref r, .ref 2] w = p_ev scr 82 43 [.ref 0, .ref r, .int x2, .int x3, .int x4] [.ref 0, .ref r, .ref 2] w) ∧
  (∀ (scr : pX) (w : pW) (x2 : Int32) (x3 : Int32) (x4 : Int32), p_ev scr 82 43 [.ref 0, .ref r, .int x2, .int x3, .int x4] [.ref 0, .ref r, .ref 2] w = p_ev scr 82 46 [.ref 0, .ref r, .int x2, .int x3, .int x4] [.ref 1, .ref r, .ref 2] w) ∧
  (∀ (scr : pX) (w : pW) (x2 : Int32) (x3 : Int32) (x4 : Int32), p_ev scr 82 46 [.ref 0, .ref r, .int x2, .int x3, .int x4] [.ref 1, .ref r, .ref 2] w = p_ev scr 82 48 [.ref 0, .ref r, .int x2, .int x3, .int x4] [.int x4, .ref 1, .ref r, .ref 2] w) ∧
  (∀ (scr : pX) (w : pW) (x2 : Int32) (x3 : Int32) (x4 : Int32) (s0 : Int32), p_ev scr 82 48 [.ref 0, .ref r, .int x2, .int x3, .int x4] [.int s0, .ref 1, .ref r, .ref 2] w = p_bnd scr 82 48 51 [.ref 0, .ref r, .int x2, .int x3, .int x4] [.ref r, .ref 2] (p_ev none 40 0 [.ref 1, .int s0] [] w)) ∧
  (∀ (scr : pX) (w : pW) (x2 : Int32) (x3 : Int32) (x4 : Int32) (s0 : Int32), p_ev scr 82 51 [.ref 0, .ref r, .int x2, .int x3, .int x4] [.int s0, .ref r, .ref 2] w = p_ev scr 82 52 [.ref 0, .ref r, .int x2, .int x3, .int x4] [.ref 0, .int s0, .ref r, .ref 2] w) ∧
  (∀ (scr : pX) (w : pW) (x2 : Int32) (x3 : Int32) (x4 : Int32) (s1 : Int32), p_ev scr 82 52 [.ref 0, .ref r, .int x2, .int x3, .int x4] [.ref 0, .int s1, .ref r, .ref 2] w = p_ev scr 82 55 [.ref 0, .ref r, .int x2, .int x3, .int x4] [.ref 1, .int s1, .ref r, .ref 2] w) ∧
  (∀ (scr : pX) (w : pW) (x2 : Int32) (x3 : Int32) (x4 : Int32) (s1 : Int32), p_ev scr 82 55 [.ref 0, .ref r, .int x2, .int x3, .int x4] [.ref 1, .int s1, .ref r, .ref 2] w = p_ev scr 82 57 [.ref 0, .ref r, .int x2, .int x3, .int x4] [.int x4, .ref 1, .int s1, .ref r, .ref 2] w) ∧
  (∀ (scr : pX) (w : pW) (x2 : Int32) (x3 : Int32) (x4 : Int32) (s0 : Int32) (s2 : Int32), p_ev scr 82 57 [.ref 0, .ref r, .int x2, .int x3, .int x4] [.int s0, .ref 1, .int s2, .ref r, .ref 2] w = p_bnd scr 82 57 60 [.ref 0, .ref r, .int x2, .int x3, .int x4] [.int s2, .ref r, .ref 2] (p_ev none 39 0 [.ref 1, .int s0] [] w)) ∧
  (∀ (scr : pX) (w : pW) (x2 : Int32) (x3 : Int32) (x4 : Int32) (s0 : Int32) (s1 : Int32), p_ev scr 82 60 [.ref 0, .ref r, .int x2, .int x3, .int x4] [.int s0, .int s1, .ref r, .ref 2] w = p_ev scr 82 61 [.ref 0, .ref r, .int x2, .int x3, .int x4] [.int (nI 2), .int s0, .int s1, .ref r, .ref 2] w) ∧
  (∀ (scr : pX) (w : pW) (x2 : Int32) (x3 : Int32) (x4 : Int32) (s0 : Int32) (s1 : Int32) (s2 : Int32), ¬ s0 = 0 → p_ev scr 82 61 [.ref 0, .ref r, .int x2, .int x3, .int x4] [.int s0, .int s1, .int s2, .ref r, .ref 2] w = p_ev scr 82 62 [.ref 0, .ref r, .int x2, .int x3, .int x4] [.int (s1 / s0), .int s2, .ref r, .ref 2] w) ∧
  (∀ (scr : pX) (w : pW) (x2 : Int32) (x3 : Int32) (x4 : Int32) (s0 : Int32) (s1 : Int32), p_ev scr 82 62 [.ref 0, .ref r, .int x2, .int x3, .int x4] [.int s0, .int s1, .ref r, .ref 2] w = p_bnd scr 82 62 65 [.ref 0, .ref r, .int x2, .int x3, .int x4] [] (p_ev none 18 0 [.ref 2, .ref r, .int s1, .int s0, p_U] [] w)) ∧
  (∀ (scr : pX) (w : pW) (x2 : Int32) (x3 : Int32) (x4 : Int32), p_ev scr 82 65 [.ref 0, .ref r, .int x2, .int x3, .int x4] [] w = p_ev scr 82 68 [.ref 0, .ref r, .int x2, .int (x3 + (nI 1)), .int x4] [] w) ∧
  (∀ (scr : pX) (w : pW) (x2 : Int32) (x3 : Int32) (x4 : Int32), p_ev scr 82 68 [.ref 0, .ref r, .int x2, .int x3, .int x4] [] w = p_ev scr 82 71 [.ref 0, .ref r, .int x2, .int x3, .int (x4 + (-1 : Int32))] [] w) ∧
  (∀ (scr : pX) (w : pW) (x2 : Int32) (x3 : Int32) (x4 : Int32), p_ev scr 82 71 [.ref 0, .ref r, .int x2, .int x3, .int x4] [] w = p_ev scr 82 6 [.ref 0, .ref r, .int x2, .int x3, .int x4] [] w) ∧
  (∀ (scr : pX) (w : pW) (x2 : Int32) (x3 : Int32) (x4 : Int32), p_ev scr 82 74 [.ref 0, .ref r, .int x2, .int x3, .int x4] [] w = p_ev scr 82 75 [.ref 0, .ref r, .int x2, .int x3, .int x4] [.int x3] w) ∧
  (∀ (scr : pX) (w : pW) (x2 : Int32) (x3 : Int32) (x4 : Int32) (s0 : Int32), p_ev scr 82 75 [.ref 0, .ref r, .int x2, .int x3, .int x4] [.int s0] w = some (.inl (some (.int s0)), w, 0)) :=
  ⟨fun _ _ _ => p_r (by decide +kernel : p_at 82 0 = some (.iconst 0)) rfl,
  fun _ _ _ _ => p_r (by decide +kernel : p_at 82 1 = some (.istore_n 3)) rfl,
  fun _ _ _ _ => p_r (by decide +kernel : p_at 82 2 = some (.bipush 7)) rfl,
  fun _ _ _ _ _ => p_r (by decide +kernel : p_at 82 4 = some (.istore 4)) rfl,
  fun _ _ _ _ _ _ => p_r (by decide +kernel : p_at 82 8 = some (.iconst 1)) rfl,
  fun _ _ _ _ _ _ _ => p_rb2 (c := fun x y => decide (x < y)) (off := 65) (by decide +kernel : p_at 82 9 = some (.if_icmp .lt 65)) (by decide +kernel) rfl rfl rfl,
  fun _ _ _ _ _ => p_r (by decide +kernel : p_at 82 12 = some (.aload_n 0)) rfl,
  fun _ _ _ _ _ => p_rgf (f := some 1) (by decide +kernel : p_at 82 13 = some (.getfield 10)) (by decide +kernel : p_fld (p_own 82) 10 = some (4, 0)) (rfl : p_ob 0 = some (.inr (4, [some 1, some 2, some 4, some 3, some 5, some 6, some 7, some 19]))) rfl,
  fun _ _ _ _ _ => p_r (by decide +kernel : p_at 82 16 = some (.iload 4)) rfl,
  fun _ _ _ _ _ _ => p_rcv (nl := 2) (by decide +kernel : p_at 82 18 = some (.invokevirtual 114)) (by decide +kernel : p_inv (p_own 82) 114 = some (1, 33, 2)) (by decide +kernel) (rfl : p_ob 1 = some (.inr (3, [some 18, none]))) rfl rfl (Nat.le_of_ble_eq_true rfl) (Nat.le_of_ble_eq_true rfl) (Nat.le_of_ble_eq_true rfl) rfl,
  fun _ _ _ _ _ _ => p_rb1 (c := fun x => decide (x = 0)) (off := 47) (by decide +kernel : p_at 82 21 = some (.ifCond .eq 47)) (by decide +kernel) rfl rfl rfl,
  fun _ _ _ _ _ => p_r (by decide +kernel : p_at 82 24 = some (.aload_n 0)) rfl,
  fun _ _ _ _ _ => p_rgf (f := some 1) (by decide +kernel : p_at 82 25 = some (.getfield 10)) (by decide +kernel : p_fld (p_own 82) 10 = some (4, 0)) (rfl : p_ob 0 = some (.inr (4, [some 1, some 2, some 4, some 3, some 5, some 6, some 7, some 19]))) rfl,
  fun _ _ _ _ _ => p_r (by decide +kernel : p_at 82 28 = some (.iload 4)) rfl,
  fun _ _ _ _ _ _ => p_r (by decide +kernel : p_at 82 30 = some (.iload_n 2)) rfl,
  fun _ _ _ _ _ _ _ => p_rcv (nl := 4) (by decide +kernel : p_at 82 31 = some (.invokevirtual 249)) (by decide +kernel : p_inv (p_own 82) 249 = some (1, 37, 3)) (by decide +kernel) (rfl : p_ob 1 = some (.inr (3, [some 18, none]))) rfl rfl (Nat.le_of_ble_eq_true rfl) (Nat.le_of_ble_eq_true rfl) (Nat.le_of_ble_eq_true rfl) rfl,
  fun _ _ _ _ _ _ => p_rb1 (c := fun x => decide (x = 0)) (off := 34) (by decide +kernel : p_at 82 34 = some (.ifCond .eq 34)) (by decide +kernel) rfl rfl rfl,
  fun _ _ _ _ _ => p_r (by decide +kernel : p_at 82 37 = some (.aload_n 0)) rfl,
  fun _ _ _ _ _ => p_rgf (f := some 2) (by decide +kernel : p_at 82 38 = some (.getfield 19)) (by decide +kernel : p_fld (p_own 82) 19 = some (4, 1)) (rfl : p_ob 0 = some (.inr (4, [some 1, some 2, some 4, some 3, some 5, some 6, some 7, some 19]))) rfl,
  fun _ _ _ _ _ => p_r (by decide +kernel : p_at 82 41 = some (.aload_n 1)) rfl,
  fun _ _ _ _ _ => p_r (by decide +kernel : p_at 82 42 = some (.aload_n 0)) rfl,
  fun _ _ _ _ _ => p_rgf (f := some 1) (by decide +kernel : p_at 82 43 = some (.getfield 10)) (by decide +kernel : p_fld (p_own 82) 10 = some (4, 0)) (rfl : p_ob 0 = some (.inr (4, [some 1, some 2, some 4, some 3, some 5, some 6, some 7, some 19]))) rfl,
  fun _ _ _ _ _ => p_r (by decide +kernel : p_at 82 46 = some (.iload 4)) rfl,
  fun _ _ _ _ _ _ => p_rcv (nl := 2) (by decide +kernel : p_at 82 48 = some (.invokevirtual 154)) (by decide +kernel : p_inv (p_own 82) 154 = some (1, 40, 2)) (by decide +kernel) (rfl : p_ob 1 = some (.inr (3, [some 18, none]))) rfl rfl (Nat.le_of_ble_eq_true rfl) (Nat.le_of_ble_eq_true rfl) (Nat.le_of_ble_eq_true rfl) rfl,
  fun _ _ _ _ _ _ => p_r (by decide +kernel : p_at 82 51 = some (.aload_n 0)) rfl,
  fun _ _ _ _ _ _ => p_rgf (f := some 1) (by decide +kernel : p_at 82 52 = some (.getfield 10)) (by decide +kernel : p_fld (p_own 82) 10 = some (4, 0)) (rfl : p_ob 0 = some (.inr (4, [some 1, some 2, some 4, some 3, some 5, some 6, some 7, some 19]))) rfl,
  fun _ _ _ _ _ _ => p_r (by decide +kernel : p_at 82 55 = some (.iload 4)) rfl,
  fun _ _ _ _ _ _ _ => p_rcv (nl := 2) (by decide +kernel : p_at 82 57 = some (.invokevirtual 110)) (by decide +kernel : p_inv (p_own 82) 110 = some (1, 39, 2)) (by decide +kernel) (rfl : p_ob 1 = some (.inr (3, [some 18, none]))) rfl rfl (Nat.le_of_ble_eq_true rfl) (Nat.le_of_ble_eq_true rfl) (Nat.le_of_ble_eq_true rfl) rfl,
  fun _ _ _ _ _ _ _ => p_r (by decide +kernel : p_at 82 60 = some (.iconst 2)) rfl,
  fun _ _ _ _ _ _ _ _ hp => p_ridiv (by decide +kernel : p_at 82 61 = some (.idiv)) hp,
  fun _ _ _ _ _ _ _ => p_rcv (nl := 5) (by decide +kernel : p_at 82 62 = some (.invokevirtual 253)) (by decide +kernel : p_inv (p_own 82) 253 = some (1, 18, 4)) (by decide +kernel) (rfl : p_ob 2 = some (.inr (1, [some 8, none]))) rfl rfl (Nat.le_of_ble_eq_true rfl) (Nat.le_of_ble_eq_true rfl) (Nat.le_of_ble_eq_true rfl) rfl,
  fun _ _ _ _ _ => p_r (by decide +kernel : p_at 82 65 = some (.iinc 3 1)) rfl,
  fun _ _ _ _ _ => p_r (by decide +kernel : p_at 82 68 = some (.iinc 4 (-1))) rfl,
  fun _ _ _ _ _ => p_rgo (by decide +kernel : p_at 82 71 = some (.goto (-65))) (by decide +kernel),
  fun _ _ _ _ _ => p_r (by decide +kernel : p_at 82 74 = some (.iload_n 3)) rfl,
  fun _ _ _ _ _ _ => p_riret (by decide +kernel : p_at 82 75 = some (.ireturn)) (by decide +kernel)⟩
theorem H82_6 (r : Nat) (hr : p_rw r) :
  (∀ (scr : pX) (w : pW) (x2 : Int32) (x3 : Int32) (x4 : Int32), p_ev scr 82 6 [.ref 0, .ref r, .int x2, .int x3, .int x4] [] w = p_ev scr 82 8 [.ref 0, .ref r, .int x2, .int x3, .int x4] [.int x4] w) :=
  fun _ _ _ _ _ => p_r (by decide +kernel : p_at 82 6 = some (.iload 4)) rfl
-- 83: splitNodesBelow
theorem M83 :
  (∀ (scr : pX) (w : pW) (x1 : Int32), p_ev scr 83 0 [.ref 0, .int x1, p_U] [] w = p_ev scr 83 1 [.ref 0, .int x1, p_U] [.int (nI 1)] w) ∧
  (∀ (scr : pX) (w : pW) (x1 : Int32) (s0 : Int32), p_ev scr 83 1 [.ref 0, .int x1, p_U] [.int s0] w = p_ev scr 83 2 [.ref 0, .int x1, .int s0] [] w) ∧
  (∀ (scr : pX) (w : pW) (x1 : Int32) (x2 : Int32) (s0 : Int32), p_ev scr 83 3 [.ref 0, .int x1, .int x2] [.int s0] w = p_ev scr 83 4 [.ref 0, .int x1, .int x2] [.int x1, .int s0] w) ∧
  (∀ (scr : pX) (w : pW) (x1 : Int32) (x2 : Int32) (s0 : Int32) (s1 : Int32), p_ev scr 83 4 [.ref 0, .int x1, .int x2] [.int s0, .int s1] w = if s0 ≤ s1 then p_ev scr 83 60 [.ref 0, .int x1, .int x2] [] w else p_ev scr 83 7 [.ref 0, .int x1, .int x2] [] w) ∧
  (∀ (scr : pX) (w : pW) (x1 : Int32) (x2 : Int32), p_ev scr 83 7 [.ref 0, .int x1, .int x2] [] w = p_ev scr 83 8 [.ref 0, .int x1, .int x2] [.int x2] w) ∧
  (∀ (scr : pX) (w : pW) (x1 : Int32) (x2 : Int32) (s0 : Int32), p_ev scr 83 8 [.ref 0, .int x1, .int x2] [.int s0] w = p_ev scr 83 9 [.ref 0, .int x1, .int x2] [.ref 0, .int s0] w) ∧
  (∀ (scr : pX) (w : pW) (x1 : Int32) (x2 : Int32) (s1 : Int32), p_ev scr 83 9 [.ref 0, .int x1, .int x2] [.ref 0, .int s1] w = p_ev scr 83 12 [.ref 0, .int x1, .int x2] [.ref 19, .int s1] w) ∧
  (∀ (scr : pX) (w : pW) (x1 : Int32) (x2 : Int32) (s1 : Int32), p_ev scr 83 12 [.ref 0, .int x1, .int x2] [.ref 19, .int s1] w = p_ev scr 83 13 [.ref 0, .int x1, .int x2] [.int (nI 8), .int s1] w) ∧
  (∀ (scr : pX) (w : pW) (x1 : Int32) (x2 : Int32) (s0 : Int32) (s1 : Int32), p_ev scr 83 13 [.ref 0, .int x1, .int x2] [.int s0, .int s1] w = if s0 ≤ s1 then p_ev scr 83 60 [.ref 0, .int x1, .int x2] [] w else p_ev scr 83 16 [.ref 0, .int x1, .int x2] [] w) ∧
  (∀ (scr : pX) (w : pW) (x1 : Int32) (x2 : Int32), p_ev scr 83 16 [.ref 0, .int x1, .int x2] [] w = p_ev scr 83 17 [.ref 0, .int x1, .int x2] [.ref 0] w) ∧
  (∀ (scr : pX) (w : pW) (x1 : Int32) (x2 : Int32), p_ev scr 83 17 [.ref 0, .int x1, .int x2] [.ref 0] w = p_ev scr 83 20 [.ref 0, .int x1, .int x2] [.ref 1] w) ∧
  (∀ (scr : pX) (w : pW) (x1 : Int32) (x2 : Int32), p_ev scr 83 20 [.ref 0, .int x1, .int x2] [.ref 1] w = p_ev scr 83 21 [.ref 0, .int x1, .int x2] [.int x2, .ref 1] w) ∧
  (∀ (scr : pX) (w : pW) (x1 : Int32) (x2 : Int32) (s0 : Int32), p_ev scr 83 21 [.ref 0, .int x1, .int x2] [.int s0, .ref 1] w = p_bnd scr 83 21 24 [.ref 0, .int x1, .int x2] [] (p_ev none 32 0 [.ref 1, .int s0] [] w)) ∧
  (∀ (scr : pX) (w : pW) (x1 : Int32) (x2 : Int32) (s0 : Int32), p_ev scr 83 24 [.ref 0, .int x1, .int x2] [.int s0] w = if s0 = nI 0 then p_ev scr 83 54 [.ref 0, .int x1, .int x2] [] w else p_ev scr 83 27 [.ref 0, .int x1, .int x2] [] w) ∧
  (∀ (scr : pX) (w : pW) (x1 : Int32) (x2 : Int32), p_ev scr 83 27 [.ref 0, .int x1, .int x2] [] w = p_ev scr 83 28 [.ref 0, .int x1, .int x2] [.ref 0] w) ∧
  (∀ (scr : pX) (w : pW) (x1 : Int32) (x2 : Int32), p_ev scr 83 28 [.ref 0, .int x1, .int x2] [.ref 0] w = p_ev scr 83 31 [.ref 0, .int x1, .int x2] [.ref 19] w) ∧
  (∀ (scr : pX) (w : pW) (x1 : Int32) (x2 : Int32), p_ev scr 83 31 [.ref 0, .int x1, .int x2] [.ref 19] w = p_ev scr 83 32 [.ref 0, .int x1, .int x2] [.int x2, .ref 19] w) ∧
  (∀ (scr : pX) (w : pW) (x1 : Int32) (x2 : Int32) (s0 : Int32), p_ev scr 83 32 [.ref 0, .int x1, .int x2] [.int s0, .ref 19] w = p_ev scr 83 33 [.ref 0, .int x1, .int x2] [.ref 0, .int s0, .ref 19] w) ∧
  (∀ (scr : pX) (w : pW) (x1 : Int32) (x2 : Int32) (s1 : Int32), p_ev scr 83 33 [.ref 0, .int x1, .int x2] [.ref 0, .int s1, .ref 19] w = p_ev scr 83 34 [.ref 0, .int x1, .int x2] [.int x2, .ref 0, .int s1, .ref 19] w) ∧
  (∀ (scr : pX) (w : pW) (x1 : Int32) (x2 : Int32) (s0 : Int32) (s2 : Int32), p_ev scr 83 34 [.ref 0, .int x1, .int x2] [.int s0, .ref 0, .int s2, .ref 19] w = p_bnd scr 83 34 37 [.ref 0, .int x1, .int x2] [.int s2, .ref 19] (p_ev none 85 0 [.ref 0, .int s0, p_U, p_U, p_U] [] w)) ∧
  (∀ (scr : pX) (w : pW) (x1 : Int32) (x2 : Int32) (s0 : Int32) (s1 : Int32), p_out s1 8 = false → p_ev scr 83 37 [.ref 0, .int x1, .int x2] [.int s0, .int s1, .ref 19] w = p_ev scr 83 38 [.ref 0, .int x1, .int x2] [] (w.1, w.2.1, p_u w.2.2 19 s1.toNatClampNeg s0)) ∧
  (∀ (scr : pX) (w : pW) (x1 : Int32) (x2 : Int32), p_ev scr 83 38 [.ref 0, .int x1, .int x2] [] w = p_ev scr 83 39 [.ref 0, .int x1, .int x2] [.ref 0] w) ∧
  (∀ (scr : pX) (w : pW) (x1 : Int32) (x2 : Int32), p_ev scr 83 39 [.ref 0, .int x1, .int x2] [.ref 0] w = p_ev scr 83 42 [.ref 0, .int x1, .int x2] [.ref 1] w) ∧
  (∀ (scr : pX) (w : pW) (x1 : Int32) (x2 : Int32), p_ev scr 83 42 [.ref 0, .int x1, .int x2] [.ref 1] w = p_ev scr 83 43 [.ref 0, .int x1, .int x2] [.int x2, .ref 1] w) ∧
  (∀ (scr : pX) (w : pW) (x1 : Int32) (x2 : Int32) (s0 : Int32), p_ev scr 83 43 [.ref 0, .int x1, .int x2] [.int s0, .ref 1] w = p_bnd scr 83 43 46 [.ref 0, .int x1, .int x2] [] (p_ev none 34 0 [.ref 1, .int s0] [] w)) ∧
  (∀ (scr : pX) (w : pW) (x1 : Int32) (x2 : Int32) (s0 : Int32), p_ev scr 83 46 [.ref 0, .int x1, .int x2] [.int s0] w = if s0 = nI 0 then p_ev scr 83 54 [.ref 0, .int x1, .int x2] [] w else p_ev scr 83 49 [.ref 0, .int x1, .int x2] [] w) ∧
  (∀ (scr : pX) (w : pW) (x1 : Int32) (x2 : Int32), p_ev scr 83 49 [.ref 0, .int x1, .int x2] [] w = p_ev scr 83 50 [.ref 0, .int x1, .int x2] [.ref 0] w) ∧
  (∀ (scr : pX) (w : pW) (x1 : Int32) (x2 : Int32), p_ev scr 83 50 [.ref 0, .int x1, .int x2] [.ref 0] w = p_ev scr 83 51 [.ref 0, .int x1, .int x2] [.int x2, .ref 0] w) ∧
  (∀ (scr : pX) (w : pW) (x1 : Int32) (x2 : Int32) (s0 : Int32), p_ev scr 83 51 [.ref 0, .int x1, .int x2] [.int s0, .ref 0] w = p_bnd scr 83 51 54 [.ref 0, .int x1, .int x2] [] (p_ev none 80 0 [.ref 0, .int s0] [] w)) ∧
  (∀ (scr : pX) (w : pW) (x1 : Int32) (x2 : Int32), p_ev scr 83 54 [.ref 0, .int x1, .int x2] [] w = p_ev scr 83 57 [.ref 0, .int x1, .int (x2 + (nI 1))] [] w) ∧
  (∀ (scr : pX) (w : pW) (x1 : Int32) (x2 : Int32), p_ev scr 83 57 [.ref 0, .int x1, .int x2] [] w = p_ev scr 83 2 [.ref 0, .int x1, .int x2] [] w) ∧
  (∀ (scr : pX) (w : pW) (x1 : Int32) (x2 : Int32), p_ev scr 83 60 [.ref 0, .int x1, .int x2] [] w = some (.inl none, w, 0)) :=
  ⟨fun _ _ _ => p_r (by decide +kernel : p_at 83 0 = some (.iconst 1)) rfl,
  fun _ _ _ _ => p_r (by decide +kernel : p_at 83 1 = some (.istore_n 2)) rfl,
  fun _ _ _ _ _ => p_r (by decide +kernel : p_at 83 3 = some (.iload_n 1)) rfl,
  fun _ _ _ _ _ _ => p_rb2 (c := fun x y => decide (y ≤ x)) (off := 56) (by decide +kernel : p_at 83 4 = some (.if_icmp .ge 56)) (by decide +kernel) rfl rfl rfl,
  fun _ _ _ _ => p_r (by decide +kernel : p_at 83 7 = some (.iload_n 2)) rfl,
  fun _ _ _ _ _ => p_r (by decide +kernel : p_at 83 8 = some (.aload_n 0)) rfl,
  fun _ _ _ _ _ => p_rgf (f := some 19) (by decide +kernel : p_at 83 9 = some (.getfield 46)) (by decide +kernel : p_fld (p_own 83) 46 = some (4, 7)) (rfl : p_ob 0 = some (.inr (4, [some 1, some 2, some 4, some 3, some 5, some 6, some 7, some 19]))) rfl,
  fun _ _ _ _ _ => p_ralen (by decide +kernel : p_at 83 12 = some (.arraylength)) (rfl : p_ob 19 = some (.inl (1, 8))),
  fun _ _ _ _ _ _ => p_rb2 (c := fun x y => decide (y ≤ x)) (off := 47) (by decide +kernel : p_at 83 13 = some (.if_icmp .ge 47)) (by decide +kernel) rfl rfl rfl,
  fun _ _ _ _ => p_r (by decide +kernel : p_at 83 16 = some (.aload_n 0)) rfl,
  fun _ _ _ _ => p_rgf (f := some 1) (by decide +kernel : p_at 83 17 = some (.getfield 10)) (by decide +kernel : p_fld (p_own 83) 10 = some (4, 0)) (rfl : p_ob 0 = some (.inr (4, [some 1, some 2, some 4, some 3, some 5, some 6, some 7, some 19]))) rfl,
  fun _ _ _ _ => p_r (by decide +kernel : p_at 83 20 = some (.iload_n 2)) rfl,
  fun _ _ _ _ _ => p_rcv (nl := 2) (by decide +kernel : p_at 83 21 = some (.invokevirtual 122)) (by decide +kernel : p_inv (p_own 83) 122 = some (1, 32, 2)) (by decide +kernel) (rfl : p_ob 1 = some (.inr (3, [some 18, none]))) rfl rfl (Nat.le_of_ble_eq_true rfl) (Nat.le_of_ble_eq_true rfl) (Nat.le_of_ble_eq_true rfl) rfl,
  fun _ _ _ _ _ => p_rb1 (c := fun x => decide (x = 0)) (off := 30) (by decide +kernel : p_at 83 24 = some (.ifCond .eq 30)) (by decide +kernel) rfl rfl rfl,
  fun _ _ _ _ => p_r (by decide +kernel : p_at 83 27 = some (.aload_n 0)) rfl,
  fun _ _ _ _ => p_rgf (f := some 19) (by decide +kernel : p_at 83 28 = some (.getfield 46)) (by decide +kernel : p_fld (p_own 83) 46 = some (4, 7)) (rfl : p_ob 0 = some (.inr (4, [some 1, some 2, some 4, some 3, some 5, some 6, some 7, some 19]))) rfl,
  fun _ _ _ _ => p_r (by decide +kernel : p_at 83 31 = some (.iload_n 2)) rfl,
  fun _ _ _ _ _ => p_r (by decide +kernel : p_at 83 32 = some (.aload_n 0)) rfl,
  fun _ _ _ _ _ => p_r (by decide +kernel : p_at 83 33 = some (.iload_n 2)) rfl,
  fun _ _ _ _ _ _ => p_rcv (nl := 5) (by decide +kernel : p_at 83 34 = some (.invokevirtual 136)) (by decide +kernel : p_inv (p_own 83) 136 = some (1, 85, 2)) (by decide +kernel) (rfl : p_ob 0 = some (.inr (4, [some 1, some 2, some 4, some 3, some 5, some 6, some 7, some 19]))) rfl rfl (Nat.le_of_ble_eq_true rfl) (Nat.le_of_ble_eq_true rfl) (Nat.le_of_ble_eq_true rfl) rfl,
  fun _ _ _ _ _ _ hp => p_riast (by decide +kernel : p_at 83 37 = some (.iastore)) (rfl : p_ob 19 = some (.inl (1, 8))) hp,
  fun _ _ _ _ => p_r (by decide +kernel : p_at 83 38 = some (.aload_n 0)) rfl,
  fun _ _ _ _ => p_rgf (f := some 1) (by decide +kernel : p_at 83 39 = some (.getfield 10)) (by decide +kernel : p_fld (p_own 83) 10 = some (4, 0)) (rfl : p_ob 0 = some (.inr (4, [some 1, some 2, some 4, some 3, some 5, some 6, some 7, some 19]))) rfl,
  fun _ _ _ _ => p_r (by decide +kernel : p_at 83 42 = some (.iload_n 2)) rfl,
  fun _ _ _ _ _ => p_rcv (nl := 2) (by decide +kernel : p_at 83 43 = some (.invokevirtual 98)) (by decide +kernel : p_inv (p_own 83) 98 = some (1, 34, 2)) (by decide +kernel) (rfl : p_ob 1 = some (.inr (3, [some 18, none]))) rfl rfl (Nat.le_of_ble_eq_true rfl) (Nat.le_of_ble_eq_true rfl) (Nat.le_of_ble_eq_true rfl) rfl,
  fun _ _ _ _ _ => p_rb1 (c := fun x => decide (x = 0)) (off := 8) (by decide +kernel : p_at 83 46 = some (.ifCond .eq 8)) (by decide +kernel) rfl rfl rfl,
  fun _ _ _ _ => p_r (by decide +kernel : p_at 83 49 = some (.aload_n 0)) rfl,
  fun _ _ _ _ => p_r (by decide +kernel : p_at 83 50 = some (.iload_n 2)) rfl,
  fun _ _ _ _ _ => p_rcv (nl := 2) (by decide +kernel : p_at 83 51 = some (.invokevirtual 107)) (by decide +kernel : p_inv (p_own 83) 107 = some (1, 80, 2)) (by decide +kernel) (rfl : p_ob 0 = some (.inr (4, [some 1, some 2, some 4, some 3, some 5, some 6, some 7, some 19]))) rfl rfl (Nat.le_of_ble_eq_true rfl) (Nat.le_of_ble_eq_true rfl) (Nat.le_of_ble_eq_true rfl) rfl,
  fun _ _ _ _ => p_r (by decide +kernel : p_at 83 54 = some (.iinc 2 1)) rfl,
  fun _ _ _ _ => p_rgo (by decide +kernel : p_at 83 57 = some (.goto (-55))) (by decide +kernel),
  fun _ _ _ _ => p_rvret (by decide +kernel : p_at 83 60 = some (.return_)) (by decide +kernel)⟩
theorem H83_2 :
  (∀ (scr : pX) (w : pW) (x1 : Int32) (x2 : Int32), p_ev scr 83 2 [.ref 0, .int x1, .int x2] [] w = p_ev scr 83 3 [.ref 0, .int x1, .int x2] [.int x2] w) :=
  fun _ _ _ _ => p_r (by decide +kernel : p_at 83 2 = some (.iload_n 2)) rfl
-- 84: joinWhereLeafCostsNoMore
theorem M84 :
  (∀ (scr : pX) (w : pW), p_ev scr 84 0 [.ref 0, p_U] [] w = p_ev scr 84 1 [.ref 0, p_U] [.ref 0] w) ∧
  (∀ (scr : pX) (w : pW), p_ev scr 84 1 [.ref 0, p_U] [.ref 0] w = p_ev scr 84 4 [.ref 0, p_U] [.ref 19] w) ∧
  (∀ (scr : pX) (w : pW), p_ev scr 84 4 [.ref 0, p_U] [.ref 19] w = p_ev scr 84 5 [.ref 0, p_U] [.int (nI 8)] w) ∧
  (∀ (scr : pX) (w : pW) (s0 : Int32), p_ev scr 84 5 [.ref 0, p_U] [.int s0] w = p_ev scr 84 6 [.ref 0, p_U] [.int (nI 1), .int s0] w) ∧
  (∀ (scr : pX) (w : pW) (s0 : Int32) (s1 : Int32), p_ev scr 84 6 [.ref 0, p_U] [.int s0, .int s1] w = p_ev scr 84 7 [.ref 0, p_U] [.int (s1 - s0)] w) ∧
  (∀ (scr : pX) (w : pW) (s0 : Int32), p_ev scr 84 7 [.ref 0, p_U] [.int s0] w = p_ev scr 84 8 [.ref 0, .int s0] [] w) ∧
  (∀ (scr : pX) (w : pW) (x1 : Int32) (s0 : Int32), p_ev scr 84 9 [.ref 0, .int x1] [.int s0] w = p_ev scr 84 10 [.ref 0, .int x1] [.int (nI 1), .int s0] w) ∧
  (∀ (scr : pX) (w : pW) (x1 : Int32) (s0 : Int32) (s1 : Int32), p_ev scr 84 10 [.ref 0, .int x1] [.int s0, .int s1] w = if s1 < s0 then p_ev scr 84 50 [.ref 0, .int x1] [] w else p_ev scr 84 13 [.ref 0, .int x1] [] w) ∧
  (∀ (scr : pX) (w : pW) (x1 : Int32), p_ev scr 84 13 [.ref 0, .int x1] [] w = p_ev scr 84 14 [.ref 0, .int x1] [.ref 0] w) ∧
  (∀ (scr : pX) (w : pW) (x1 : Int32), p_ev scr 84 14 [.ref 0, .int x1] [.ref 0] w = p_ev scr 84 17 [.ref 0, .int x1] [.ref 1] w) ∧
  (∀ (scr : pX) (w : pW) (x1 : Int32), p_ev scr 84 17 [.ref 0, .int x1] [.ref 1] w = p_ev scr 84 18 [.ref 0, .int x1] [.int x1, .ref 1] w) ∧
  (∀ (scr : pX) (w : pW) (x1 : Int32) (s0 : Int32), p_ev scr 84 18 [.ref 0, .int x1] [.int s0, .ref 1] w = p_bnd scr 84 18 21 [.ref 0, .int x1] [] (p_ev none 33 0 [.ref 1, .int s0] [] w)) ∧
  (∀ (scr : pX) (w : pW) (x1 : Int32) (s0 : Int32), p_ev scr 84 21 [.ref 0, .int x1] [.int s0] w = if s0 = nI 0 then p_ev scr 84 44 [.ref 0, .int x1] [] w else p_ev scr 84 24 [.ref 0, .int x1] [] w) ∧
  (∀ (scr : pX) (w : pW) (x1 : Int32), p_ev scr 84 24 [.ref 0, .int x1] [] w = p_ev scr 84 25 [.ref 0, .int x1] [.ref 0] w) ∧
  (∀ (scr : pX) (w : pW) (x1 : Int32), p_ev scr 84 25 [.ref 0, .int x1] [.ref 0] w = p_ev scr 84 28 [.ref 0, .int x1] [.ref 19] w) ∧
  (∀ (scr : pX) (w : pW) (x1 : Int32), p_ev scr 84 28 [.ref 0, .int x1] [.ref 19] w = p_ev scr 84 29 [.ref 0, .int x1] [.int x1, .ref 19] w) ∧
  (∀ (scr : pX) (w : pW) (x1 : Int32) (s0 : Int32), p_out s0 8 = false → p_ev scr 84 29 [.ref 0, .int x1] [.int s0, .ref 19] w = p_ev scr 84 30 [.ref 0, .int x1] [.int (w.2.2 19 s0.toNatClampNeg)] w) ∧
  (∀ (scr : pX) (w : pW) (x1 : Int32) (s0 : Int32), p_ev scr 84 30 [.ref 0, .int x1] [.int s0] w = p_ev scr 84 31 [.ref 0, .int x1] [.ref 0, .int s0] w) ∧
  (∀ (scr : pX) (w : pW) (x1 : Int32) (s1 : Int32), p_ev scr 84 31 [.ref 0, .int x1] [.ref 0, .int s1] w = p_ev scr 84 32 [.ref 0, .int x1] [.int x1, .ref 0, .int s1] w) ∧
  (∀ (scr : pX) (w : pW) (x1 : Int32) (s0 : Int32) (s2 : Int32), p_ev scr 84 32 [.ref 0, .int x1] [.int s0, .ref 0, .int s2] w = p_bnd scr 84 32 35 [.ref 0, .int x1] [.int s2] (p_ev none 85 0 [.ref 0, .int s0, p_U, p_U, p_U] [] w)) ∧
  (∀ (scr : pX) (w : pW) (x1 : Int32) (s0 : Int32) (s1 : Int32), p_ev scr 84 35 [.ref 0, .int x1] [.int s0, .int s1] w = if s0 < s1 then p_ev scr 84 44 [.ref 0, .int x1] [] w else p_ev scr 84 38 [.ref 0, .int x1] [] w) ∧
  (∀ (scr : pX) (w : pW) (x1 : Int32), p_ev scr 84 38 [.ref 0, .int x1] [] w = p_ev scr 84 39 [.ref 0, .int x1] [.ref 0] w) ∧
  (∀ (scr : pX) (w : pW) (x1 : Int32), p_ev scr 84 39 [.ref 0, .int x1] [.ref 0] w = p_ev scr 84 40 [.ref 0, .int x1] [.int x1, .ref 0] w) ∧
  (∀ (scr : pX) (w : pW) (x1 : Int32) (s0 : Int32), p_ev scr 84 40 [.ref 0, .int x1] [.int s0, .ref 0] w = p_bnd scr 84 40 43 [.ref 0, .int x1] [] (p_ev none 81 0 [.ref 0, .int s0, p_U] [] w)) ∧
  (∀ (scr : pX) (w : pW) (x1 : Int32) (s0 : Int32), p_ev scr 84 43 [.ref 0, .int x1] [.int s0] w = p_ev scr 84 44 [.ref 0, .int x1] [] w) ∧
  (∀ (scr : pX) (w : pW) (x1 : Int32), p_ev scr 84 44 [.ref 0, .int x1] [] w = p_ev scr 84 47 [.ref 0, .int (x1 + (-1 : Int32))] [] w) ∧
  (∀ (scr : pX) (w : pW) (x1 : Int32), p_ev scr 84 47 [.ref 0, .int x1] [] w = p_ev scr 84 8 [.ref 0, .int x1] [] w) ∧
  (∀ (scr : pX) (w : pW) (x1 : Int32), p_ev scr 84 50 [.ref 0, .int x1] [] w = some (.inl none, w, 0)) :=
  ⟨fun _ _ => p_r (by decide +kernel : p_at 84 0 = some (.aload_n 0)) rfl,
  fun _ _ => p_rgf (f := some 19) (by decide +kernel : p_at 84 1 = some (.getfield 46)) (by decide +kernel : p_fld (p_own 84) 46 = some (4, 7)) (rfl : p_ob 0 = some (.inr (4, [some 1, some 2, some 4, some 3, some 5, some 6, some 7, some 19]))) rfl,
  fun _ _ => p_ralen (by decide +kernel : p_at 84 4 = some (.arraylength)) (rfl : p_ob 19 = some (.inl (1, 8))),
  fun _ _ _ => p_r (by decide +kernel : p_at 84 5 = some (.iconst 1)) rfl,
  fun _ _ _ _ => p_r (by decide +kernel : p_at 84 6 = some (.isub)) rfl,
  fun _ _ _ => p_r (by decide +kernel : p_at 84 7 = some (.istore_n 1)) rfl,
  fun _ _ _ _ => p_r (by decide +kernel : p_at 84 9 = some (.iconst 1)) rfl,
  fun _ _ _ _ _ => p_rb2 (c := fun x y => decide (x < y)) (off := 40) (by decide +kernel : p_at 84 10 = some (.if_icmp .lt 40)) (by decide +kernel) rfl rfl rfl,
  fun _ _ _ => p_r (by decide +kernel : p_at 84 13 = some (.aload_n 0)) rfl,
  fun _ _ _ => p_rgf (f := some 1) (by decide +kernel : p_at 84 14 = some (.getfield 10)) (by decide +kernel : p_fld (p_own 84) 10 = some (4, 0)) (rfl : p_ob 0 = some (.inr (4, [some 1, some 2, some 4, some 3, some 5, some 6, some 7, some 19]))) rfl,
  fun _ _ _ => p_r (by decide +kernel : p_at 84 17 = some (.iload_n 1)) rfl,
  fun _ _ _ _ => p_rcv (nl := 2) (by decide +kernel : p_at 84 18 = some (.invokevirtual 114)) (by decide +kernel : p_inv (p_own 84) 114 = some (1, 33, 2)) (by decide +kernel) (rfl : p_ob 1 = some (.inr (3, [some 18, none]))) rfl rfl (Nat.le_of_ble_eq_true rfl) (Nat.le_of_ble_eq_true rfl) (Nat.le_of_ble_eq_true rfl) rfl,
  fun _ _ _ _ => p_rb1 (c := fun x => decide (x = 0)) (off := 23) (by decide +kernel : p_at 84 21 = some (.ifCond .eq 23)) (by decide +kernel) rfl rfl rfl,
  fun _ _ _ => p_r (by decide +kernel : p_at 84 24 = some (.aload_n 0)) rfl,
  fun _ _ _ => p_rgf (f := some 19) (by decide +kernel : p_at 84 25 = some (.getfield 46)) (by decide +kernel : p_fld (p_own 84) 46 = some (4, 7)) (rfl : p_ob 0 = some (.inr (4, [some 1, some 2, some 4, some 3, some 5, some 6, some 7, some 19]))) rfl,
  fun _ _ _ => p_r (by decide +kernel : p_at 84 28 = some (.iload_n 1)) rfl,
  fun _ _ _ _ hp => p_riald (by decide +kernel : p_at 84 29 = some (.iaload)) (rfl : p_ob 19 = some (.inl (1, 8))) hp,
  fun _ _ _ _ => p_r (by decide +kernel : p_at 84 30 = some (.aload_n 0)) rfl,
  fun _ _ _ _ => p_r (by decide +kernel : p_at 84 31 = some (.iload_n 1)) rfl,
  fun _ _ _ _ _ => p_rcv (nl := 5) (by decide +kernel : p_at 84 32 = some (.invokevirtual 136)) (by decide +kernel : p_inv (p_own 84) 136 = some (1, 85, 2)) (by decide +kernel) (rfl : p_ob 0 = some (.inr (4, [some 1, some 2, some 4, some 3, some 5, some 6, some 7, some 19]))) rfl rfl (Nat.le_of_ble_eq_true rfl) (Nat.le_of_ble_eq_true rfl) (Nat.le_of_ble_eq_true rfl) rfl,
  fun _ _ _ _ _ => p_rb2 (c := fun x y => decide (y < x)) (off := 9) (by decide +kernel : p_at 84 35 = some (.if_icmp .gt 9)) (by decide +kernel) rfl rfl rfl,
  fun _ _ _ => p_r (by decide +kernel : p_at 84 38 = some (.aload_n 0)) rfl,
  fun _ _ _ => p_r (by decide +kernel : p_at 84 39 = some (.iload_n 1)) rfl,
  fun _ _ _ _ => p_rcv (nl := 3) (by decide +kernel : p_at 84 40 = some (.invokevirtual 119)) (by decide +kernel : p_inv (p_own 84) 119 = some (1, 81, 2)) (by decide +kernel) (rfl : p_ob 0 = some (.inr (4, [some 1, some 2, some 4, some 3, some 5, some 6, some 7, some 19]))) rfl rfl (Nat.le_of_ble_eq_true rfl) (Nat.le_of_ble_eq_true rfl) (Nat.le_of_ble_eq_true rfl) rfl,
  fun _ _ _ _ => p_r (by decide +kernel : p_at 84 43 = some (.pop)) rfl,
  fun _ _ _ => p_r (by decide +kernel : p_at 84 44 = some (.iinc 1 (-1))) rfl,
  fun _ _ _ => p_rgo (by decide +kernel : p_at 84 47 = some (.goto (-39))) (by decide +kernel),
  fun _ _ _ => p_rvret (by decide +kernel : p_at 84 50 = some (.return_)) (by decide +kernel)⟩
theorem H84_8 :
  (∀ (scr : pX) (w : pW) (x1 : Int32), p_ev scr 84 8 [.ref 0, .int x1] [] w = p_ev scr 84 9 [.ref 0, .int x1] [.int x1] w) :=
  fun _ _ _ => p_r (by decide +kernel : p_at 84 8 = some (.iload_n 1)) rfl
-- 85: branchCost
theorem M85 :
  (∀ (scr : pX) (w : pW) (x1 : Int32), p_ev scr 85 0 [.ref 0, .int x1, p_U, p_U, p_U] [] w = p_ev scr 85 1 [.ref 0, .int x1, p_U, p_U, p_U] [.int (nI 0)] w) ∧
  (∀ (scr : pX) (w : pW) (x1 : Int32) (s0 : Int32), p_ev scr 85 1 [.ref 0, .int x1, p_U, p_U, p_U] [.int s0] w = p_ev scr 85 2 [.ref 0, .int x1, .int s0, p_U, p_U] [] w) ∧
  (∀ (scr : pX) (w : pW) (x1 : Int32) (x2 : Int32), p_ev scr 85 2 [.ref 0, .int x1, .int x2, p_U, p_U] [] w = p_ev scr 85 3 [.ref 0, .int x1, .int x2, p_U, p_U] [.ref 0] w) ∧
  (∀ (scr : pX) (w : pW) (x1 : Int32) (x2 : Int32), p_ev scr 85 3 [.ref 0, .int x1, .int x2, p_U, p_U] [.ref 0] w = p_ev scr 85 6 [.ref 0, .int x1, .int x2, p_U, p_U] [.ref 1] w) ∧
  (∀ (scr : pX) (w : pW) (x1 : Int32) (x2 : Int32), p_ev scr 85 6 [.ref 0, .int x1, .int x2, p_U, p_U] [.ref 1] w = p_ev scr 85 7 [.ref 0, .int x1, .int x2, p_U, p_U] [.int x1, .ref 1] w) ∧
  (∀ (scr : pX) (w : pW) (x1 : Int32) (x2 : Int32) (s0 : Int32), p_ev scr 85 7 [.ref 0, .int x1, .int x2, p_U, p_U] [.int s0, .ref 1] w = p_bnd scr 85 7 10 [.ref 0, .int x1, .int x2, p_U, p_U] [] (p_ev none 40 0 [.ref 1, .int s0] [] w)) ∧
  (∀ (scr : pX) (w : pW) (x1 : Int32) (x2 : Int32) (s0 : Int32), p_ev scr 85 10 [.ref 0, .int x1, .int x2, p_U, p_U] [.int s0] w = p_ev scr 85 11 [.ref 0, .int x1, .int x2, p_U, p_U] [.ref 0, .int s0] w) ∧
  (∀ (scr : pX) (w : pW) (x1 : Int32) (x2 : Int32) (s1 : Int32), p_ev scr 85 11 [.ref 0, .int x1, .int x2, p_U, p_U] [.ref 0, .int s1] w = p_ev scr 85 14 [.ref 0, .int x1, .int x2, p_U, p_U] [.ref 1, .int s1] w) ∧
  (∀ (scr : pX) (w : pW) (x1 : Int32) (x2 : Int32) (s1 : Int32), p_ev scr 85 14 [.ref 0, .int x1, .int x2, p_U, p_U] [.ref 1, .int s1] w = p_ev scr 85 15 [.ref 0, .int x1, .int x2, p_U, p_U] [.int x1, .ref 1, .int s1] w) ∧
  (∀ (scr : pX) (w : pW) (x1 : Int32) (x2 : Int32) (s0 : Int32) (s2 : Int32), p_ev scr 85 15 [.ref 0, .int x1, .int x2, p_U, p_U] [.int s0, .ref 1, .int s2] w = p_bnd scr 85 15 18 [.ref 0, .int x1, .int x2, p_U, p_U] [.int s2] (p_ev none 39 0 [.ref 1, .int s0] [] w)) ∧
  (∀ (scr : pX) (w : pW) (x1 : Int32) (x2 : Int32) (s0 : Int32) (s1 : Int32), p_ev scr 85 18 [.ref 0, .int x1, .int x2, p_U, p_U] [.int s0, .int s1] w = p_ev scr 85 19 [.ref 0, .int x1, .int x2, p_U, p_U] [.int (s1 + s0)] w) ∧
  (∀ (scr : pX) (w : pW) (x1 : Int32) (x2 : Int32) (s0 : Int32), p_ev scr 85 19 [.ref 0, .int x1, .int x2, p_U, p_U] [.int s0] w = p_ev scr 85 20 [.ref 0, .int x1, .int x2, .int s0, p_U] [] w) ∧
  (∀ (scr : pX) (w : pW) (x1 : Int32) (x2 : Int32) (x3 : Int32), p_ev scr 85 20 [.ref 0, .int x1, .int x2, .int x3, p_U] [] w = p_ev scr 85 21 [.ref 0, .int x1, .int x2, .int x3, p_U] [.ref 0] w) ∧
  (∀ (scr : pX) (w : pW) (x1 : Int32) (x2 : Int32) (x3 : Int32), p_ev scr 85 21 [.ref 0, .int x1, .int x2, .int x3, p_U] [.ref 0] w = p_ev scr 85 24 [.ref 0, .int x1, .int x2, .int x3, p_U] [.ref 1] w) ∧
  (∀ (scr : pX) (w : pW) (x1 : Int32) (x2 : Int32) (x3 : Int32), p_ev scr 85 24 [.ref 0, .int x1, .int x2, .int x3, p_U] [.ref 1] w = p_ev scr 85 25 [.ref 0, .int x1, .int x2, .int x3, p_U] [.int x1, .ref 1] w) ∧
  (∀ (scr : pX) (w : pW) (x1 : Int32) (x2 : Int32) (x3 : Int32) (s0 : Int32), p_ev scr 85 25 [.ref 0, .int x1, .int x2, .int x3, p_U] [.int s0, .ref 1] w = p_bnd scr 85 25 28 [.ref 0, .int x1, .int x2, .int x3, p_U] [] (p_ev none 40 0 [.ref 1, .int s0] [] w)) ∧
  (∀ (scr : pX) (w : pW) (x1 : Int32) (x2 : Int32) (x3 : Int32) (s0 : Int32), p_ev scr 85 28 [.ref 0, .int x1, .int x2, .int x3, p_U] [.int s0] w = p_ev scr 85 30 [.ref 0, .int x1, .int x2, .int x3, .int s0] [] w) ∧
  (∀ (scr : pX) (w : pW) (x1 : Int32) (x2 : Int32) (x3 : Int32) (x4 : Int32) (s0 : Int32), p_ev scr 85 32 [.ref 0, .int x1, .int x2, .int x3, .int x4] [.int s0] w = p_ev scr 85 33 [.ref 0, .int x1, .int x2, .int x3, .int x4] [.int x3, .int s0] w) ∧
  (∀ (scr : pX) (w : pW) (x1 : Int32) (x2 : Int32) (x3 : Int32) (x4 : Int32) (s0 : Int32) (s1 : Int32), p_ev scr 85 33 [.ref 0, .int x1, .int x2, .int x3, .int x4] [.int s0, .int s1] w = if s0 ≤ s1 then p_ev scr 85 57 [.ref 0, .int x1, .int x2, .int x3, .int x4] [] w else p_ev scr 85 36 [.ref 0, .int x1, .int x2, .int x3, .int x4] [] w) ∧
  (∀ (scr : pX) (w : pW) (x1 : Int32) (x2 : Int32) (x3 : Int32) (x4 : Int32), p_ev scr 85 36 [.ref 0, .int x1, .int x2, .int x3, .int x4] [] w = p_ev scr 85 37 [.ref 0, .int x1, .int x2, .int x3, .int x4] [.int x2] w) ∧
  (∀ (scr : pX) (w : pW) (x1 : Int32) (x2 : Int32) (x3 : Int32) (x4 : Int32) (s0 : Int32), p_ev scr 85 37 [.ref 0, .int x1, .int x2, .int x3, .int x4] [.int s0] w = p_ev scr 85 38 [.ref 0, .int x1, .int x2, .int x3, .int x4] [.ref 0, .int s0] w) ∧
  (∀ (scr : pX) (w : pW) (x1 : Int32) (x2 : Int32) (x3 : Int32) (x4 : Int32) (s1 : Int32), p_ev scr 85 38 [.ref 0, .int x1, .int x2, .int x3, .int x4] [.ref 0, .int s1] w = p_ev scr 85 41 [.ref 0, .int x1, .int x2, .int x3, .int x4] [.ref 4, .int s1] w) ∧
  (∀ (scr : pX) (w : pW) (x1 : Int32) (x2 : Int32) (x3 : Int32) (x4 : Int32) (s1 : Int32), p_ev scr 85 41 [.ref 0, .int x1, .int x2, .int x3, .int x4] [.ref 4, .int s1] w = p_ev scr 85 43 [.ref 0, .int x1, .int x2, .int x3, .int x4] [.int x4, .ref 4, .int s1] w) ∧
  (∀ (scr : pX) (w : pW) (x1 : Int32) (x2 : Int32) (x3 : Int32) (x4 : Int32) (s0 : Int32) (s2 : Int32), p_ev scr 85 43 [.ref 0, .int x1, .int x2, .int x3, .int x4] [.int s0, .ref 4, .int s2] w = p_bnd scr 85 43 46 [.ref 0, .int x1, .int x2, .int x3, .int x4] [.int s2] (p_ev none 26 0 [.ref 4, .int s0] [] w)) ∧
  (∀ (scr : pX) (w : pW) (x1 : Int32) (x2 : Int32) (x3 : Int32) (x4 : Int32) (t0 : Int64) (s1 : Int32), p_ev scr 85 46 [.ref 0, .int x1, .int x2, .int x3, .int x4] [.long t0, .int s1] w = p_bnd scr 85 46 49 [.ref 0, .int x1, .int x2, .int x3, .int x4] [.int s1] (p_ev none 86 0 [.long t0, p_U, p_U] [] w)) ∧
  (∀ (scr : pX) (w : pW) (x1 : Int32) (x2 : Int32) (x3 : Int32) (x4 : Int32) (s0 : Int32) (s1 : Int32), p_ev scr 85 49 [.ref 0, .int x1, .int x2, .int x3, .int x4] [.int s0, .int s1] w = p_ev scr 85 50 [.ref 0, .int x1, .int x2, .int x3, .int x4] [.int (s1 + s0)] w) ∧
  (∀ (scr : pX) (w : pW) (x1 : Int32) (x2 : Int32) (x3 : Int32) (x4 : Int32) (s0 : Int32), p_ev scr 85 50 [.ref 0, .int x1, .int x2, .int x3, .int x4] [.int s0] w = p_ev scr 85 51 [.ref 0, .int x1, .int s0, .int x3, .int x4] [] w) ∧
  (∀ (scr : pX) (w : pW) (x1 : Int32) (x2 : Int32) (x3 : Int32) (x4 : Int32), p_ev scr 85 51 [.ref 0, .int x1, .int x2, .int x3, .int x4] [] w = p_ev scr 85 54 [.ref 0, .int x1, .int x2, .int x3, .int (x4 + (nI 1))] [] w) ∧
  (∀ (scr : pX) (w : pW) (x1 : Int32) (x2 : Int32) (x3 : Int32) (x4 : Int32), p_ev scr 85 54 [.ref 0, .int x1, .int x2, .int x3, .int x4] [] w = p_ev scr 85 30 [.ref 0, .int x1, .int x2, .int x3, .int x4] [] w) ∧
  (∀ (scr : pX) (w : pW) (x1 : Int32) (x2 : Int32) (x3 : Int32) (x4 : Int32), p_ev scr 85 57 [.ref 0, .int x1, .int x2, .int x3, .int x4] [] w = p_ev scr 85 58 [.ref 0, .int x1, .int x2, .int x3, .int x4] [.int x2] w) ∧
  (∀ (scr : pX) (w : pW) (x1 : Int32) (x2 : Int32) (x3 : Int32) (x4 : Int32) (s0 : Int32), p_ev scr 85 58 [.ref 0, .int x1, .int x2, .int x3, .int x4] [.int s0] w = some (.inl (some (.int s0)), w, 0)) :=
  ⟨fun _ _ _ => p_r (by decide +kernel : p_at 85 0 = some (.iconst 0)) rfl,
  fun _ _ _ _ => p_r (by decide +kernel : p_at 85 1 = some (.istore_n 2)) rfl,
  fun _ _ _ _ => p_r (by decide +kernel : p_at 85 2 = some (.aload_n 0)) rfl,
  fun _ _ _ _ => p_rgf (f := some 1) (by decide +kernel : p_at 85 3 = some (.getfield 10)) (by decide +kernel : p_fld (p_own 85) 10 = some (4, 0)) (rfl : p_ob 0 = some (.inr (4, [some 1, some 2, some 4, some 3, some 5, some 6, some 7, some 19]))) rfl,
  fun _ _ _ _ => p_r (by decide +kernel : p_at 85 6 = some (.iload_n 1)) rfl,
  fun _ _ _ _ _ => p_rcv (nl := 2) (by decide +kernel : p_at 85 7 = some (.invokevirtual 154)) (by decide +kernel : p_inv (p_own 85) 154 = some (1, 40, 2)) (by decide +kernel) (rfl : p_ob 1 = some (.inr (3, [some 18, none]))) rfl rfl (Nat.le_of_ble_eq_true rfl) (Nat.le_of_ble_eq_true rfl) (Nat.le_of_ble_eq_true rfl) rfl,
  fun _ _ _ _ _ => p_r (by decide +kernel : p_at 85 10 = some (.aload_n 0)) rfl,
  fun _ _ _ _ _ => p_rgf (f := some 1) (by decide +kernel : p_at 85 11 = some (.getfield 10)) (by decide +kernel : p_fld (p_own 85) 10 = some (4, 0)) (rfl : p_ob 0 = some (.inr (4, [some 1, some 2, some 4, some 3, some 5, some 6, some 7, some 19]))) rfl,
  fun _ _ _ _ _ => p_r (by decide +kernel : p_at 85 14 = some (.iload_n 1)) rfl,
  fun _ _ _ _ _ _ => p_rcv (nl := 2) (by decide +kernel : p_at 85 15 = some (.invokevirtual 110)) (by decide +kernel : p_inv (p_own 85) 110 = some (1, 39, 2)) (by decide +kernel) (rfl : p_ob 1 = some (.inr (3, [some 18, none]))) rfl rfl (Nat.le_of_ble_eq_true rfl) (Nat.le_of_ble_eq_true rfl) (Nat.le_of_ble_eq_true rfl) rfl,
  fun _ _ _ _ _ _ => p_r (by decide +kernel : p_at 85 18 = some (.iadd)) rfl,
  fun _ _ _ _ _ => p_r (by decide +kernel : p_at 85 19 = some (.istore_n 3)) rfl,
  fun _ _ _ _ _ => p_r (by decide +kernel : p_at 85 20 = some (.aload_n 0)) rfl,
  fun _ _ _ _ _ => p_rgf (f := some 1) (by decide +kernel : p_at 85 21 = some (.getfield 10)) (by decide +kernel : p_fld (p_own 85) 10 = some (4, 0)) (rfl : p_ob 0 = some (.inr (4, [some 1, some 2, some 4, some 3, some 5, some 6, some 7, some 19]))) rfl,
  fun _ _ _ _ _ => p_r (by decide +kernel : p_at 85 24 = some (.iload_n 1)) rfl,
  fun _ _ _ _ _ _ => p_rcv (nl := 2) (by decide +kernel : p_at 85 25 = some (.invokevirtual 154)) (by decide +kernel : p_inv (p_own 85) 154 = some (1, 40, 2)) (by decide +kernel) (rfl : p_ob 1 = some (.inr (3, [some 18, none]))) rfl rfl (Nat.le_of_ble_eq_true rfl) (Nat.le_of_ble_eq_true rfl) (Nat.le_of_ble_eq_true rfl) rfl,
  fun _ _ _ _ _ _ => p_r (by decide +kernel : p_at 85 28 = some (.istore 4)) rfl,
  fun _ _ _ _ _ _ _ => p_r (by decide +kernel : p_at 85 32 = some (.iload_n 3)) rfl,
  fun _ _ _ _ _ _ _ _ => p_rb2 (c := fun x y => decide (y ≤ x)) (off := 24) (by decide +kernel : p_at 85 33 = some (.if_icmp .ge 24)) (by decide +kernel) rfl rfl rfl,
  fun _ _ _ _ _ _ => p_r (by decide +kernel : p_at 85 36 = some (.iload_n 2)) rfl,
  fun _ _ _ _ _ _ _ => p_r (by decide +kernel : p_at 85 37 = some (.aload_n 0)) rfl,
  fun _ _ _ _ _ _ _ => p_rgf (f := some 4) (by decide +kernel : p_at 85 38 = some (.getfield 26)) (by decide +kernel : p_fld (p_own 85) 26 = some (4, 2)) (rfl : p_ob 0 = some (.inr (4, [some 1, some 2, some 4, some 3, some 5, some 6, some 7, some 19]))) rfl,
  fun _ _ _ _ _ _ _ => p_r (by decide +kernel : p_at 85 41 = some (.iload 4)) rfl,
  fun _ _ _ _ _ _ _ _ => p_rcv (nl := 2) (by decide +kernel : p_at 85 43 = some (.invokevirtual 179)) (by decide +kernel : p_inv (p_own 85) 179 = some (1, 26, 2)) (by decide +kernel) (rfl : p_ob 4 = some (.inr (2, [some 11]))) rfl rfl (Nat.le_of_ble_eq_true rfl) (Nat.le_of_ble_eq_true rfl) (Nat.le_of_ble_eq_true rfl) rfl,
  fun _ _ _ _ _ _ _ _ => p_rcs (nl := 3) (by decide +kernel : p_at 85 46 = some (.invokestatic 256)) (by decide +kernel : p_inv (p_own 85) 256 = some (1, 86, 1)) (by decide +kernel) rfl rfl (Nat.le_of_ble_eq_true rfl) (Nat.le_of_ble_eq_true rfl) (Nat.le_of_ble_eq_true rfl) rfl,
  fun _ _ _ _ _ _ _ _ => p_r (by decide +kernel : p_at 85 49 = some (.iadd)) rfl,
  fun _ _ _ _ _ _ _ => p_r (by decide +kernel : p_at 85 50 = some (.istore_n 2)) rfl,
  fun _ _ _ _ _ _ => p_r (by decide +kernel : p_at 85 51 = some (.iinc 4 1)) rfl,
  fun _ _ _ _ _ _ => p_rgo (by decide +kernel : p_at 85 54 = some (.goto (-24))) (by decide +kernel),
  fun _ _ _ _ _ _ => p_r (by decide +kernel : p_at 85 57 = some (.iload_n 2)) rfl,
  fun _ _ _ _ _ _ _ => p_riret (by decide +kernel : p_at 85 58 = some (.ireturn)) (by decide +kernel)⟩
theorem H85_30 :
  (∀ (scr : pX) (w : pW) (x1 : Int32) (x2 : Int32) (x3 : Int32) (x4 : Int32), p_ev scr 85 30 [.ref 0, .int x1, .int x2, .int x3, .int x4] [] w = p_ev scr 85 32 [.ref 0, .int x1, .int x2, .int x3, .int x4] [.int x4] w) :=
  fun _ _ _ _ _ _ => p_r (by decide +kernel : p_at 85 30 = some (.iload 4)) rfl
-- 86: digits
theorem M86 :
  (∀ (scr : pX) (w : pW) (y0 : Int64), p_ev scr 86 0 [.long y0, p_U, p_U] [] w = p_ev scr 86 1 [.long y0, p_U, p_U] [.int (nI 0)] w) ∧
  (∀ (scr : pX) (w : pW) (y0 : Int64) (s0 : Int32), p_ev scr 86 1 [.long y0, p_U, p_U] [.int s0] w = p_ev scr 86 2 [.long y0, p_U, .int s0] [] w) ∧
  (∀ (scr : pX) (w : pW) (y0 : Int64) (x2 : Int32) (s0 : Int32), p_ev scr 86 3 [.long y0, p_U, .int x2] [.int s0] w = p_ev scr 86 5 [.long y0, p_U, .int x2] [.int (nI 63), .int s0] w) ∧
  (∀ (scr : pX) (w : pW) (y0 : Int64) (x2 : Int32) (s0 : Int32) (s1 : Int32), p_ev scr 86 5 [.long y0, p_U, .int x2] [.int s0, .int s1] w = if s0 ≤ s1 then p_ev scr 86 22 [.long y0, p_U, .int x2] [] w else p_ev scr 86 8 [.long y0, p_U, .int x2] [] w) ∧
  (∀ (scr : pX) (w : pW) (y0 : Int64) (x2 : Int32), p_ev scr 86 8 [.long y0, p_U, .int x2] [] w = p_ev scr 86 9 [.long y0, p_U, .int x2] [.long y0] w) ∧
  (∀ (scr : pX) (w : pW) (y0 : Int64) (x2 : Int32) (t0 : Int64), p_ev scr 86 9 [.long y0, p_U, .int x2] [.long t0] w = p_ev scr 86 10 [.long y0, p_U, .int x2] [.int x2, .long t0] w) ∧
  (∀ (scr : pX) (w : pW) (y0 : Int64) (x2 : Int32) (s0 : Int32) (t1 : Int64), p_ev scr 86 10 [.long y0, p_U, .int x2] [.int s0, .long t1] w = p_ev scr 86 11 [.long y0, p_U, .int x2] [.long (t1 >>> (s0.toInt64 &&& 63))] w) ∧
  (∀ (scr : pX) (w : pW) (y0 : Int64) (x2 : Int32) (t0 : Int64), p_ev scr 86 11 [.long y0, p_U, .int x2] [.long t0] w = p_ev scr 86 12 [.long y0, p_U, .int x2] [.long (lN 0), .long t0] w) ∧
  (∀ (scr : pX) (w : pW) (y0 : Int64) (x2 : Int32) (t0 : Int64) (t1 : Int64), p_ev scr 86 12 [.long y0, p_U, .int x2] [.long t0, .long t1] w = p_ev scr 86 13 [.long y0, p_U, .int x2] [.int (lg_cmp t1 t0)] w) ∧
  (∀ (scr : pX) (w : pW) (y0 : Int64) (x2 : Int32) (s0 : Int32), p_ev scr 86 13 [.long y0, p_U, .int x2] [.int s0] w = if s0 = nI 0 then p_ev scr 86 22 [.long y0, p_U, .int x2] [] w else p_ev scr 86 16 [.long y0, p_U, .int x2] [] w) ∧
  (∀ (scr : pX) (w : pW) (y0 : Int64) (x2 : Int32), p_ev scr 86 16 [.long y0, p_U, .int x2] [] w = p_ev scr 86 19 [.long y0, p_U, .int (x2 + (nI 1))] [] w) ∧
  (∀ (scr : pX) (w : pW) (y0 : Int64) (x2 : Int32), p_ev scr 86 19 [.long y0, p_U, .int x2] [] w = p_ev scr 86 2 [.long y0, p_U, .int x2] [] w) ∧
  (∀ (scr : pX) (w : pW) (y0 : Int64) (x2 : Int32), p_ev scr 86 22 [.long y0, p_U, .int x2] [] w = p_ev scr 86 23 [.long y0, p_U, .int x2] [.int x2] w) ∧
  (∀ (scr : pX) (w : pW) (y0 : Int64) (x2 : Int32) (s0 : Int32), p_ev scr 86 23 [.long y0, p_U, .int x2] [.int s0] w = some (.inl (some (.int s0)), w, 0)) :=
  ⟨fun _ _ _ => p_r (by decide +kernel : p_at 86 0 = some (.iconst 0)) rfl,
  fun _ _ _ _ => p_r (by decide +kernel : p_at 86 1 = some (.istore_n 2)) rfl,
  fun _ _ _ _ _ => p_r (by decide +kernel : p_at 86 3 = some (.bipush 63)) rfl,
  fun _ _ _ _ _ _ => p_rb2 (c := fun x y => decide (y ≤ x)) (off := 17) (by decide +kernel : p_at 86 5 = some (.if_icmp .ge 17)) (by decide +kernel) rfl rfl rfl,
  fun _ _ _ _ => p_r (by decide +kernel : p_at 86 8 = some (.lload_n 0)) rfl,
  fun _ _ _ _ _ => p_r (by decide +kernel : p_at 86 9 = some (.iload_n 2)) rfl,
  fun _ _ _ _ _ _ => p_r (by decide +kernel : p_at 86 10 = some (.lshr)) rfl,
  fun _ _ _ _ _ => p_r (by decide +kernel : p_at 86 11 = some (.lconst 0)) rfl,
  fun _ _ _ _ _ _ => p_r (by decide +kernel : p_at 86 12 = some (.lcmp)) rfl,
  fun _ _ _ _ _ => p_rb1 (c := fun x => decide (x = 0)) (off := 9) (by decide +kernel : p_at 86 13 = some (.ifCond .eq 9)) (by decide +kernel) rfl rfl rfl,
  fun _ _ _ _ => p_r (by decide +kernel : p_at 86 16 = some (.iinc 2 1)) rfl,
  fun _ _ _ _ => p_rgo (by decide +kernel : p_at 86 19 = some (.goto (-17))) (by decide +kernel),
  fun _ _ _ _ => p_r (by decide +kernel : p_at 86 22 = some (.iload_n 2)) rfl,
  fun _ _ _ _ _ => p_riret (by decide +kernel : p_at 86 23 = some (.ireturn)) (by decide +kernel)⟩
theorem H86_2 :
  (∀ (scr : pX) (w : pW) (y0 : Int64) (x2 : Int32), p_ev scr 86 2 [.long y0, p_U, .int x2] [] w = p_ev scr 86 3 [.long y0, p_U, .int x2] [.int x2] w) :=
  fun _ _ _ _ => p_r (by decide +kernel : p_at 86 2 = some (.iload_n 2)) rfl
-- 87: gatherSamples
theorem M87 :
  (∀ (scr : pX) (w : pW), p_ev scr 87 0 [.ref 0] [] w = p_ev scr 87 1 [.ref 0] [.ref 0] w) ∧
  (∀ (scr : pX) (w : pW), p_ev scr 87 1 [.ref 0] [.ref 0] w = p_ev scr 87 4 [.ref 0] [.ref 5] w) ∧
  (∀ (scr : pX) (w : pW), p_ev scr 87 4 [.ref 0] [.ref 5] w = p_ev scr 87 5 [.ref 0] [.ref 0, .ref 5] w) ∧
  (∀ (scr : pX) (w : pW), p_ev scr 87 5 [.ref 0] [.ref 0, .ref 5] w = p_ev scr 87 8 [.ref 0] [.ref 4, .ref 5] w) ∧
  (∀ (scr : pX) (w : pW), p_ev scr 87 8 [.ref 0] [.ref 4, .ref 5] w = p_bnd scr 87 8 11 [.ref 0] [] (p_ev none 28 0 [.ref 5, .ref 4, p_U] [] w)) ∧
  (∀ (scr : pX) (w : pW), p_ev scr 87 11 [.ref 0] [] w = p_ev scr 87 12 [.ref 0] [.ref 0] w) ∧
  (∀ (scr : pX) (w : pW), p_ev scr 87 12 [.ref 0] [.ref 0] w = p_ev scr 87 13 [.ref 0] [.ref 0, .ref 0] w) ∧
  (∀ (scr : pX) (w : pW), p_ev scr 87 13 [.ref 0] [.ref 0, .ref 0] w = p_ev scr 87 16 [.ref 0] [.ref 5, .ref 0] w) ∧
  (∀ (scr : pX) (w : pW), p_ev scr 87 16 [.ref 0] [.ref 5, .ref 0] w = p_ev scr 87 17 [.ref 0] [.int (nI 1), .ref 5, .ref 0] w) ∧
  (∀ (scr : pX) (w : pW) (s0 : Int32), p_ev scr 87 17 [.ref 0] [.int s0, .ref 5, .ref 0] w = p_bnd scr 87 17 20 [.ref 0] [] (p_ev none 82 0 [.ref 0, .ref 5, .int s0, p_U, p_U] [] w)) ∧
  (∀ (scr : pX) (w : pW) (s0 : Int32), p_ev scr 87 20 [.ref 0] [.int s0] w = p_ev scr 87 21 [.ref 0] [] w) ∧
  (∀ (scr : pX) (w : pW), p_ev scr 87 21 [.ref 0] [] w = some (.inl none, w, 0)) :=
  ⟨fun _ _ => p_r (by decide +kernel : p_at 87 0 = some (.aload_n 0)) rfl,
  fun _ _ => p_rgf (f := some 5) (by decide +kernel : p_at 87 1 = some (.getfield 37)) (by decide +kernel : p_fld (p_own 87) 37 = some (4, 4)) (rfl : p_ob 0 = some (.inr (4, [some 1, some 2, some 4, some 3, some 5, some 6, some 7, some 19]))) rfl,
  fun _ _ => p_r (by decide +kernel : p_at 87 4 = some (.aload_n 0)) rfl,
  fun _ _ => p_rgf (f := some 4) (by decide +kernel : p_at 87 5 = some (.getfield 26)) (by decide +kernel : p_fld (p_own 87) 26 = some (4, 2)) (rfl : p_ob 0 = some (.inr (4, [some 1, some 2, some 4, some 3, some 5, some 6, some 7, some 19]))) rfl,
  fun _ _ => p_rcv (nl := 3) (by decide +kernel : p_at 87 8 = some (.invokevirtual 260)) (by decide +kernel : p_inv (p_own 87) 260 = some (1, 28, 2)) (by decide +kernel) (rfl : p_ob 5 = some (.inr (2, [some 12]))) rfl rfl (Nat.le_of_ble_eq_true rfl) (Nat.le_of_ble_eq_true rfl) (Nat.le_of_ble_eq_true rfl) rfl,
  fun _ _ => p_r (by decide +kernel : p_at 87 11 = some (.aload_n 0)) rfl,
  fun _ _ => p_r (by decide +kernel : p_at 87 12 = some (.aload_n 0)) rfl,
  fun _ _ => p_rgf (f := some 5) (by decide +kernel : p_at 87 13 = some (.getfield 37)) (by decide +kernel : p_fld (p_own 87) 37 = some (4, 4)) (rfl : p_ob 0 = some (.inr (4, [some 1, some 2, some 4, some 3, some 5, some 6, some 7, some 19]))) rfl,
  fun _ _ => p_r (by decide +kernel : p_at 87 16 = some (.iconst 1)) rfl,
  fun _ _ _ => p_rcv (nl := 5) (by decide +kernel : p_at 87 17 = some (.invokevirtual 242)) (by decide +kernel : p_inv (p_own 87) 242 = some (1, 82, 3)) (by decide +kernel) (rfl : p_ob 0 = some (.inr (4, [some 1, some 2, some 4, some 3, some 5, some 6, some 7, some 19]))) rfl rfl (Nat.le_of_ble_eq_true rfl) (Nat.le_of_ble_eq_true rfl) (Nat.le_of_ble_eq_true rfl) rfl,
  fun _ _ _ => p_r (by decide +kernel : p_at 87 20 = some (.pop)) rfl,
  fun _ _ => p_rvret (by decide +kernel : p_at 87 21 = some (.return_)) (by decide +kernel)⟩
