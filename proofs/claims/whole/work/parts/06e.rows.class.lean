/-! what the instructions of LiftingWorkshop do, written by wip/whole/gen/rules.py -/
-- 44: begin
theorem M44 :
  (∀ (scr : pX) (w : pW) (x1 : Int32), p_ev scr 44 0 [.ref 0, .int x1, p_U] [] w = p_ev scr 44 1 [.ref 0, .int x1, p_U] [.int x1] w) ∧
  (∀ (scr : pX) (w : pW) (x1 : Int32) (s0 : Int32), p_ev scr 44 1 [.ref 0, .int x1, p_U] [.int s0] w = p_ev scr 44 2 [.ref 0, .int x1, p_U] [.int (nI 4), .int s0] w) ∧
  (∀ (scr : pX) (w : pW) (x1 : Int32) (s0 : Int32) (s1 : Int32), p_ev scr 44 2 [.ref 0, .int x1, p_U] [.int s0, .int s1] w = if s1 = s0 then p_ev scr 44 33 [.ref 0, .int x1, p_U] [] w else p_ev scr 44 5 [.ref 0, .int x1, p_U] [] w) ∧
  (∀ (scr : pX) (w : pW) (x1 : Int32), p_ev scr 44 5 [.ref 0, .int x1, p_U] [] w = p_ev scr 44 6 [.ref 0, .int x1, p_U] [.int x1] w) ∧
  (∀ (scr : pX) (w : pW) (x1 : Int32) (s0 : Int32), p_ev scr 44 6 [.ref 0, .int x1, p_U] [.int s0] w = p_ev scr 44 8 [.ref 0, .int x1, p_U] [.int (nI 8), .int s0] w) ∧
  (∀ (scr : pX) (w : pW) (x1 : Int32) (s0 : Int32) (s1 : Int32), p_ev scr 44 8 [.ref 0, .int x1, p_U] [.int s0, .int s1] w = if s1 = s0 then p_ev scr 44 33 [.ref 0, .int x1, p_U] [] w else p_ev scr 44 11 [.ref 0, .int x1, p_U] [] w) ∧
  (∀ (scr : pX) (w : pW) (x1 : Int32), p_ev scr 44 11 [.ref 0, .int x1, p_U] [] w = p_ev scr 44 12 [.ref 0, .int x1, p_U] [.int x1] w) ∧
  (∀ (scr : pX) (w : pW) (x1 : Int32) (s0 : Int32), p_ev scr 44 12 [.ref 0, .int x1, p_U] [.int s0] w = p_ev scr 44 14 [.ref 0, .int x1, p_U] [.int (nI 16), .int s0] w) ∧
  (∀ (scr : pX) (w : pW) (x1 : Int32) (s0 : Int32) (s1 : Int32), p_ev scr 44 14 [.ref 0, .int x1, p_U] [.int s0, .int s1] w = if s1 = s0 then p_ev scr 44 33 [.ref 0, .int x1, p_U] [] w else p_ev scr 44 17 [.ref 0, .int x1, p_U] [] w) ∧
  (∀ (scr : pX) (w : pW) (x1 : Int32), p_ev scr 44 17 [.ref 0, .int x1, p_U] [] w = p_ev scr 44 18 [.ref 0, .int x1, p_U] [.int x1] w) ∧
  (∀ (scr : pX) (w : pW) (x1 : Int32) (s0 : Int32), p_ev scr 44 18 [.ref 0, .int x1, p_U] [.int s0] w = p_ev scr 44 20 [.ref 0, .int x1, p_U] [.int (nI 32), .int s0] w) ∧
  (∀ (scr : pX) (w : pW) (x1 : Int32) (s0 : Int32) (s1 : Int32), p_ev scr 44 20 [.ref 0, .int x1, p_U] [.int s0, .int s1] w = if s1 = s0 then p_ev scr 44 33 [.ref 0, .int x1, p_U] [] w else p_ev scr 44 23 [.ref 0, .int x1, p_U] [] w) ∧
  (∀ (scr : pX) (w : pW) (x1 : Int32), p_ev scr 44 23 [.ref 0, .int x1, p_U] [] w = some (.inr (.inl 0), w, 1)) ∧
  (∀ (scr : pX) (w : pW) (x1 : Int32), p_ev scr 44 33 [.ref 0, .int x1, p_U] [] w = p_ev scr 44 34 [.ref 0, .int x1, p_U] [.ref 0] w) ∧
  (∀ (scr : pX) (w : pW) (x1 : Int32), p_ev scr 44 34 [.ref 0, .int x1, p_U] [.ref 0] w = p_ev scr 44 37 [.ref 0, .int x1, p_U] [.ref 1] w) ∧
  (∀ (scr : pX) (w : pW) (x1 : Int32), p_ev scr 44 37 [.ref 0, .int x1, p_U] [.ref 1] w = p_bnd scr 44 37 40 [.ref 0, .int x1, p_U] [] (p_ev none 30 0 [.ref 1] [] w)) ∧
  (∀ (scr : pX) (w : pW) (x1 : Int32) (s0 : Int32), p_ev scr 44 40 [.ref 0, .int x1, p_U] [.int s0] w = p_ev scr 44 41 [.ref 0, .int x1, .int s0] [] w) ∧
  (∀ (scr : pX) (w : pW) (x1 : Int32) (x2 : Int32), p_ev scr 44 41 [.ref 0, .int x1, .int x2] [] w = p_ev scr 44 42 [.ref 0, .int x1, .int x2] [.ref 0] w) ∧
  (∀ (scr : pX) (w : pW) (x1 : Int32) (x2 : Int32), p_ev scr 44 42 [.ref 0, .int x1, .int x2] [.ref 0] w = p_ev scr 44 45 [.ref 0, .int x1, .int x2] [.ref 1] w) ∧
  (∀ (scr : pX) (w : pW) (x1 : Int32) (x2 : Int32), p_ev scr 44 45 [.ref 0, .int x1, .int x2] [.ref 1] w = p_ev scr 44 46 [.ref 0, .int x1, .int x2] [.int x1, .ref 1] w) ∧
  (∀ (scr : pX) (w : pW) (x1 : Int32) (x2 : Int32) (s0 : Int32), p_ev scr 44 46 [.ref 0, .int x1, .int x2] [.int s0, .ref 1] w = p_bnd scr 44 46 49 [.ref 0, .int x1, .int x2] [] (p_ev none 31 0 [.ref 1, .int s0] [] w)) ∧
  (∀ (scr : pX) (w : pW) (x1 : Int32) (x2 : Int32), p_ev scr 44 49 [.ref 0, .int x1, .int x2] [] w = p_ev scr 44 50 [.ref 0, .int x1, .int x2] [.ref 0] w) ∧
  (∀ (scr : pX) (w : pW) (x1 : Int32) (x2 : Int32), p_ev scr 44 50 [.ref 0, .int x1, .int x2] [.ref 0] w = p_ev scr 44 53 [.ref 0, .int x1, .int x2] [.ref 4] w) ∧
  (∀ (scr : pX) (w : pW) (x1 : Int32) (x2 : Int32), p_ev scr 44 53 [.ref 0, .int x1, .int x2] [.ref 4] w = p_bnd scr 44 53 56 [.ref 0, .int x1, .int x2] [] (p_ev none 27 0 [.ref 4, p_U] [] w)) ∧
  (∀ (scr : pX) (w : pW) (x1 : Int32) (x2 : Int32), p_ev scr 44 56 [.ref 0, .int x1, .int x2] [] w = p_ev scr 44 57 [.ref 0, .int x1, .int x2] [.int x2] w) ∧
  (∀ (scr : pX) (w : pW) (x1 : Int32) (x2 : Int32) (s0 : Int32), p_ev scr 44 57 [.ref 0, .int x1, .int x2] [.int s0] w = some (.inl (some (.int s0)), w, 0)) :=
  ⟨fun _ _ _ => p_r (by decide +kernel : p_at 44 0 = some (.iload_n 1)) rfl,
  fun _ _ _ _ => p_r (by decide +kernel : p_at 44 1 = some (.iconst 4)) rfl,
  fun _ _ _ _ _ => p_rb2 (c := fun x y => decide (x = y)) (off := 31) (by decide +kernel : p_at 44 2 = some (.if_icmp .eq 31)) (by decide +kernel) rfl rfl rfl,
  fun _ _ _ => p_r (by decide +kernel : p_at 44 5 = some (.iload_n 1)) rfl,
  fun _ _ _ _ => p_r (by decide +kernel : p_at 44 6 = some (.bipush 8)) rfl,
  fun _ _ _ _ _ => p_rb2 (c := fun x y => decide (x = y)) (off := 25) (by decide +kernel : p_at 44 8 = some (.if_icmp .eq 25)) (by decide +kernel) rfl rfl rfl,
  fun _ _ _ => p_r (by decide +kernel : p_at 44 11 = some (.iload_n 1)) rfl,
  fun _ _ _ _ => p_r (by decide +kernel : p_at 44 12 = some (.bipush 16)) rfl,
  fun _ _ _ _ _ => p_rb2 (c := fun x y => decide (x = y)) (off := 19) (by decide +kernel : p_at 44 14 = some (.if_icmp .eq 19)) (by decide +kernel) rfl rfl rfl,
  fun _ _ _ => p_r (by decide +kernel : p_at 44 17 = some (.iload_n 1)) rfl,
  fun _ _ _ _ => p_r (by decide +kernel : p_at 44 18 = some (.bipush 32)) rfl,
  fun _ _ _ _ _ => p_rb2 (c := fun x y => decide (x = y)) (off := 13) (by decide +kernel : p_at 44 20 = some (.if_icmp .eq 13)) (by decide +kernel) rfl rfl rfl,
  fun _ _ _ => p_rnew (by decide +kernel : p_at 44 23 = some (.new 50)) (by decide +kernel) (by decide +kernel : p_at 44 27 = some (.ldc 52)) (by decide +kernel : p_at 44 29 = some (.invokespecial 54)) (by decide +kernel) (by decide +kernel) (by decide +kernel),
  fun _ _ _ => p_r (by decide +kernel : p_at 44 33 = some (.aload_n 0)) rfl,
  fun _ _ _ => p_rgf (f := some 1) (by decide +kernel : p_at 44 34 = some (.getfield 10)) (by decide +kernel : p_fld (p_own 44) 10 = some (4, 0)) (rfl : p_ob 0 = some (.inr (4, [some 1, some 2, some 4, some 3, some 5, some 6, some 7, some 19]))) rfl,
  fun _ _ _ => p_rcv (nl := 1) (by decide +kernel : p_at 44 37 = some (.invokevirtual 57)) (by decide +kernel : p_inv (p_own 44) 57 = some (1, 30, 1)) (by decide +kernel) (rfl : p_ob 1 = some (.inr (3, [some 18, none]))) rfl rfl (Nat.le_of_ble_eq_true rfl) (Nat.le_of_ble_eq_true rfl) (Nat.le_of_ble_eq_true rfl) rfl,
  fun _ _ _ _ => p_r (by decide +kernel : p_at 44 40 = some (.istore_n 2)) rfl,
  fun _ _ _ _ => p_r (by decide +kernel : p_at 44 41 = some (.aload_n 0)) rfl,
  fun _ _ _ _ => p_rgf (f := some 1) (by decide +kernel : p_at 44 42 = some (.getfield 10)) (by decide +kernel : p_fld (p_own 44) 10 = some (4, 0)) (rfl : p_ob 0 = some (.inr (4, [some 1, some 2, some 4, some 3, some 5, some 6, some 7, some 19]))) rfl,
  fun _ _ _ _ => p_r (by decide +kernel : p_at 44 45 = some (.iload_n 1)) rfl,
  fun _ _ _ _ _ => p_rcv (nl := 2) (by decide +kernel : p_at 44 46 = some (.invokevirtual 61)) (by decide +kernel : p_inv (p_own 44) 61 = some (1, 31, 2)) (by decide +kernel) (rfl : p_ob 1 = some (.inr (3, [some 18, none]))) rfl rfl (Nat.le_of_ble_eq_true rfl) (Nat.le_of_ble_eq_true rfl) (Nat.le_of_ble_eq_true rfl) rfl,
  fun _ _ _ _ => p_r (by decide +kernel : p_at 44 49 = some (.aload_n 0)) rfl,
  fun _ _ _ _ => p_rgf (f := some 4) (by decide +kernel : p_at 44 50 = some (.getfield 26)) (by decide +kernel : p_fld (p_own 44) 26 = some (4, 2)) (rfl : p_ob 0 = some (.inr (4, [some 1, some 2, some 4, some 3, some 5, some 6, some 7, some 19]))) rfl,
  fun _ _ _ _ => p_rcv (nl := 2) (by decide +kernel : p_at 44 53 = some (.invokevirtual 65)) (by decide +kernel : p_inv (p_own 44) 65 = some (1, 27, 1)) (by decide +kernel) (rfl : p_ob 4 = some (.inr (2, [some 11]))) rfl rfl (Nat.le_of_ble_eq_true rfl) (Nat.le_of_ble_eq_true rfl) (Nat.le_of_ble_eq_true rfl) rfl,
  fun _ _ _ _ => p_r (by decide +kernel : p_at 44 56 = some (.iload_n 2)) rfl,
  fun _ _ _ _ _ => p_riret (by decide +kernel : p_at 44 57 = some (.ireturn)) (by decide +kernel)⟩
-- 45: setSample
theorem M45 :
  (∀ (scr : pX) (w : pW) (x1 : Int32) (x2 : Int32), p_ev scr 45 0 [.ref 0, .int x1, .int x2, p_U, p_U] [] w = p_ev scr 45 1 [.ref 0, .int x1, .int x2, p_U, p_U] [.ref 0] w) ∧
  (∀ (scr : pX) (w : pW) (x1 : Int32) (x2 : Int32), p_ev scr 45 1 [.ref 0, .int x1, .int x2, p_U, p_U] [.ref 0] w = p_ev scr 45 2 [.ref 0, .int x1, .int x2, p_U, p_U] [.int x1, .ref 0] w) ∧
  (∀ (scr : pX) (w : pW) (x1 : Int32) (x2 : Int32) (s0 : Int32), p_ev scr 45 2 [.ref 0, .int x1, .int x2, p_U, p_U] [.int s0, .ref 0] w = p_bnd scr 45 2 5 [.ref 0, .int x1, .int x2, p_U, p_U] [] (p_ev none 75 0 [.ref 0, .int s0] [] w)) ∧
  (∀ (scr : pX) (w : pW) (x1 : Int32) (x2 : Int32), p_ev scr 45 5 [.ref 0, .int x1, .int x2, p_U, p_U] [] w = p_ev scr 45 6 [.ref 0, .int x1, .int x2, p_U, p_U] [.int x2] w) ∧
  (∀ (scr : pX) (w : pW) (x1 : Int32) (x2 : Int32) (s0 : Int32), p_ev scr 45 6 [.ref 0, .int x1, .int x2, p_U, p_U] [.int s0] w = p_ev scr 45 9 [.ref 0, .int x1, .int x2, p_U, p_U] [.int (-1000 : Int32), .int s0] w) ∧
  (∀ (scr : pX) (w : pW) (x1 : Int32) (x2 : Int32) (s0 : Int32) (s1 : Int32), p_ev scr 45 9 [.ref 0, .int x1, .int x2, p_U, p_U] [.int s0, .int s1] w = if s1 < s0 then p_ev scr 45 19 [.ref 0, .int x1, .int x2, p_U, p_U] [] w else p_ev scr 45 12 [.ref 0, .int x1, .int x2, p_U, p_U] [] w) ∧
  (∀ (scr : pX) (w : pW) (x1 : Int32) (x2 : Int32), p_ev scr 45 12 [.ref 0, .int x1, .int x2, p_U, p_U] [] w = p_ev scr 45 13 [.ref 0, .int x1, .int x2, p_U, p_U] [.int x2] w) ∧
  (∀ (scr : pX) (w : pW) (x1 : Int32) (x2 : Int32) (s0 : Int32), p_ev scr 45 13 [.ref 0, .int x1, .int x2, p_U, p_U] [.int s0] w = p_ev scr 45 16 [.ref 0, .int x1, .int x2, p_U, p_U] [.int (nI 1000), .int s0] w) ∧
  (∀ (scr : pX) (w : pW) (x1 : Int32) (x2 : Int32) (s0 : Int32) (s1 : Int32), p_ev scr 45 16 [.ref 0, .int x1, .int x2, p_U, p_U] [.int s0, .int s1] w = if s1 ≤ s0 then p_ev scr 45 29 [.ref 0, .int x1, .int x2, p_U, p_U] [] w else p_ev scr 45 19 [.ref 0, .int x1, .int x2, p_U, p_U] [] w) ∧
  (∀ (scr : pX) (w : pW) (x1 : Int32) (x2 : Int32), p_ev scr 45 19 [.ref 0, .int x1, .int x2, p_U, p_U] [] w = some (.inr (.inl 0), w, 1)) ∧
  (∀ (scr : pX) (w : pW) (x1 : Int32) (x2 : Int32), p_ev scr 45 29 [.ref 0, .int x1, .int x2, p_U, p_U] [] w = p_ev scr 45 30 [.ref 0, .int x1, .int x2, p_U, p_U] [.ref 0] w) ∧
  (∀ (scr : pX) (w : pW) (x1 : Int32) (x2 : Int32), p_ev scr 45 30 [.ref 0, .int x1, .int x2, p_U, p_U] [.ref 0] w = p_bnd scr 45 30 33 [.ref 0, .int x1, .int x2, p_U, p_U] [] (p_ev none 73 0 [.ref 0] [] w)) ∧
  (∀ (scr : pX) (w : pW) (x1 : Int32) (x2 : Int32), p_ev scr 45 33 [.ref 0, .int x1, .int x2, p_U, p_U] [] w = p_ev scr 45 34 [.ref 0, .int x1, .int x2, p_U, p_U] [.ref 0] w) ∧
  (∀ (scr : pX) (w : pW) (x1 : Int32) (x2 : Int32), p_ev scr 45 34 [.ref 0, .int x1, .int x2, p_U, p_U] [.ref 0] w = p_ev scr 45 37 [.ref 0, .int x1, .int x2, p_U, p_U] [.ref 4] w) ∧
  (∀ (scr : pX) (w : pW) (x1 : Int32) (x2 : Int32), p_ev scr 45 37 [.ref 0, .int x1, .int x2, p_U, p_U] [.ref 4] w = p_ev scr 45 38 [.ref 0, .int x1, .int x2, p_U, p_U] [.int x1, .ref 4] w) ∧
  (∀ (scr : pX) (w : pW) (x1 : Int32) (x2 : Int32) (s0 : Int32), p_ev scr 45 38 [.ref 0, .int x1, .int x2, p_U, p_U] [.int s0, .ref 4] w = p_bnd scr 45 38 41 [.ref 0, .int x1, .int x2, p_U, p_U] [] (p_ev none 24 0 [.ref 4, .int s0] [] w)) ∧
  (∀ (scr : pX) (w : pW) (x1 : Int32) (x2 : Int32) (t0 : Int64), p_ev scr 45 41 [.ref 0, .int x1, .int x2, p_U, p_U] [.long t0] w = p_ev scr 45 42 [.ref 0, .int x1, .int x2, .long t0, p_U] [] w) ∧
  (∀ (scr : pX) (w : pW) (x1 : Int32) (x2 : Int32) (y3 : Int64), p_ev scr 45 42 [.ref 0, .int x1, .int x2, .long y3, p_U] [] w = p_ev scr 45 43 [.ref 0, .int x1, .int x2, .long y3, p_U] [.ref 0] w) ∧
  (∀ (scr : pX) (w : pW) (x1 : Int32) (x2 : Int32) (y3 : Int64), p_ev scr 45 43 [.ref 0, .int x1, .int x2, .long y3, p_U] [.ref 0] w = p_ev scr 45 46 [.ref 0, .int x1, .int x2, .long y3, p_U] [.ref 4] w) ∧
  (∀ (scr : pX) (w : pW) (x1 : Int32) (x2 : Int32) (y3 : Int64), p_ev scr 45 46 [.ref 0, .int x1, .int x2, .long y3, p_U] [.ref 4] w = p_ev scr 45 47 [.ref 0, .int x1, .int x2, .long y3, p_U] [.int x1, .ref 4] w) ∧
  (∀ (scr : pX) (w : pW) (x1 : Int32) (x2 : Int32) (y3 : Int64) (s0 : Int32), p_ev scr 45 47 [.ref 0, .int x1, .int x2, .long y3, p_U] [.int s0, .ref 4] w = p_ev scr 45 48 [.ref 0, .int x1, .int x2, .long y3, p_U] [.int x2, .int s0, .ref 4] w) ∧
  (∀ (scr : pX) (w : pW) (x1 : Int32) (x2 : Int32) (y3 : Int64) (s0 : Int32) (s1 : Int32), p_ev scr 45 48 [.ref 0, .int x1, .int x2, .long y3, p_U] [.int s0, .int s1, .ref 4] w = p_ev scr 45 49 [.ref 0, .int x1, .int x2, .long y3, p_U] [.long s0.toInt64, .int s1, .ref 4] w) ∧
  (∀ (scr : pX) (w : pW) (x1 : Int32) (x2 : Int32) (y3 : Int64) (t0 : Int64) (s1 : Int32), p_ev scr 45 49 [.ref 0, .int x1, .int x2, .long y3, p_U] [.long t0, .int s1, .ref 4] w = p_bnd scr 45 49 52 [.ref 0, .int x1, .int x2, .long y3, p_U] [] (p_ev none 25 0 [.ref 4, .int s1, .long t0, p_U] [] w)) ∧
  (∀ (scr : pX) (w : pW) (x1 : Int32) (x2 : Int32) (y3 : Int64), p_ev scr 45 52 [.ref 0, .int x1, .int x2, .long y3, p_U] [] w = p_ev scr 45 53 [.ref 0, .int x1, .int x2, .long y3, p_U] [.long y3] w) ∧
  (∀ (scr : pX) (w : pW) (x1 : Int32) (x2 : Int32) (y3 : Int64) (t0 : Int64), p_ev scr 45 53 [.ref 0, .int x1, .int x2, .long y3, p_U] [.long t0] w = some (.inl (some (.long t0)), w, 0)) :=
  ⟨fun _ _ _ _ => p_r (by decide +kernel : p_at 45 0 = some (.aload_n 0)) rfl,
  fun _ _ _ _ => p_r (by decide +kernel : p_at 45 1 = some (.iload_n 1)) rfl,
  fun _ _ _ _ _ => p_rcv (nl := 2) (by decide +kernel : p_at 45 2 = some (.invokevirtual 68)) (by decide +kernel : p_inv (p_own 45) 68 = some (1, 75, 2)) (by decide +kernel) (rfl : p_ob 0 = some (.inr (4, [some 1, some 2, some 4, some 3, some 5, some 6, some 7, some 19]))) rfl rfl (Nat.le_of_ble_eq_true rfl) (Nat.le_of_ble_eq_true rfl) (Nat.le_of_ble_eq_true rfl) rfl,
  fun _ _ _ _ => p_r (by decide +kernel : p_at 45 5 = some (.iload_n 2)) rfl,
  fun _ _ _ _ _ => p_r (by decide +kernel : p_at 45 6 = some (.sipush (-1000))) rfl,
  fun _ _ _ _ _ _ => p_rb2 (c := fun x y => decide (x < y)) (off := 10) (by decide +kernel : p_at 45 9 = some (.if_icmp .lt 10)) (by decide +kernel) rfl rfl rfl,
  fun _ _ _ _ => p_r (by decide +kernel : p_at 45 12 = some (.iload_n 2)) rfl,
  fun _ _ _ _ _ => p_r (by decide +kernel : p_at 45 13 = some (.sipush 1000)) rfl,
  fun _ _ _ _ _ _ => p_rb2 (c := fun x y => decide (x ≤ y)) (off := 13) (by decide +kernel : p_at 45 16 = some (.if_icmp .le 13)) (by decide +kernel) rfl rfl rfl,
  fun _ _ _ _ => p_rnew (by decide +kernel : p_at 45 19 = some (.new 50)) (by decide +kernel) (by decide +kernel : p_at 45 23 = some (.ldc 71)) (by decide +kernel : p_at 45 25 = some (.invokespecial 54)) (by decide +kernel) (by decide +kernel) (by decide +kernel),
  fun _ _ _ _ => p_r (by decide +kernel : p_at 45 29 = some (.aload_n 0)) rfl,
  fun _ _ _ _ => p_rcv (nl := 1) (by decide +kernel : p_at 45 30 = some (.invokevirtual 73)) (by decide +kernel : p_inv (p_own 45) 73 = some (1, 73, 1)) (by decide +kernel) (rfl : p_ob 0 = some (.inr (4, [some 1, some 2, some 4, some 3, some 5, some 6, some 7, some 19]))) rfl rfl (Nat.le_of_ble_eq_true rfl) (Nat.le_of_ble_eq_true rfl) (Nat.le_of_ble_eq_true rfl) rfl,
  fun _ _ _ _ => p_r (by decide +kernel : p_at 45 33 = some (.aload_n 0)) rfl,
  fun _ _ _ _ => p_rgf (f := some 4) (by decide +kernel : p_at 45 34 = some (.getfield 26)) (by decide +kernel : p_fld (p_own 45) 26 = some (4, 2)) (rfl : p_ob 0 = some (.inr (4, [some 1, some 2, some 4, some 3, some 5, some 6, some 7, some 19]))) rfl,
  fun _ _ _ _ => p_r (by decide +kernel : p_at 45 37 = some (.iload_n 1)) rfl,
  fun _ _ _ _ _ => p_rcv (nl := 2) (by decide +kernel : p_at 45 38 = some (.invokevirtual 76)) (by decide +kernel : p_inv (p_own 45) 76 = some (1, 24, 2)) (by decide +kernel) (rfl : p_ob 4 = some (.inr (2, [some 11]))) rfl rfl (Nat.le_of_ble_eq_true rfl) (Nat.le_of_ble_eq_true rfl) (Nat.le_of_ble_eq_true rfl) rfl,
  fun _ _ _ _ _ => p_r (by decide +kernel : p_at 45 41 = some (.lstore_n 3)) rfl,
  fun _ _ _ _ _ => p_r (by decide +kernel : p_at 45 42 = some (.aload_n 0)) rfl,
  fun _ _ _ _ _ => p_rgf (f := some 4) (by decide +kernel : p_at 45 43 = some (.getfield 26)) (by decide +kernel : p_fld (p_own 45) 26 = some (4, 2)) (rfl : p_ob 0 = some (.inr (4, [some 1, some 2, some 4, some 3, some 5, some 6, some 7, some 19]))) rfl,
  fun _ _ _ _ _ => p_r (by decide +kernel : p_at 45 46 = some (.iload_n 1)) rfl,
  fun _ _ _ _ _ _ => p_r (by decide +kernel : p_at 45 47 = some (.iload_n 2)) rfl,
  fun _ _ _ _ _ _ _ => p_r (by decide +kernel : p_at 45 48 = some (.i2l)) rfl,
  fun _ _ _ _ _ _ _ => p_rcv (nl := 4) (by decide +kernel : p_at 45 49 = some (.invokevirtual 80)) (by decide +kernel : p_inv (p_own 45) 80 = some (1, 25, 3)) (by decide +kernel) (rfl : p_ob 4 = some (.inr (2, [some 11]))) rfl rfl (Nat.le_of_ble_eq_true rfl) (Nat.le_of_ble_eq_true rfl) (Nat.le_of_ble_eq_true rfl) rfl,
  fun _ _ _ _ _ => p_r (by decide +kernel : p_at 45 52 = some (.lload_n 3)) rfl,
  fun _ _ _ _ _ _ => p_rlret (by decide +kernel : p_at 45 53 = some (.lreturn)) (by decide +kernel)⟩
-- 46: sample
theorem M46 :
  (∀ (scr : pX) (w : pW) (x1 : Int32), p_ev scr 46 0 [.ref 0, .int x1] [] w = p_ev scr 46 1 [.ref 0, .int x1] [.ref 0] w) ∧
  (∀ (scr : pX) (w : pW) (x1 : Int32), p_ev scr 46 1 [.ref 0, .int x1] [.ref 0] w = p_ev scr 46 2 [.ref 0, .int x1] [.int x1, .ref 0] w) ∧
  (∀ (scr : pX) (w : pW) (x1 : Int32) (s0 : Int32), p_ev scr 46 2 [.ref 0, .int x1] [.int s0, .ref 0] w = p_bnd scr 46 2 5 [.ref 0, .int x1] [] (p_ev none 75 0 [.ref 0, .int s0] [] w)) ∧
  (∀ (scr : pX) (w : pW) (x1 : Int32), p_ev scr 46 5 [.ref 0, .int x1] [] w = p_ev scr 46 6 [.ref 0, .int x1] [.ref 0] w) ∧
  (∀ (scr : pX) (w : pW) (x1 : Int32), p_ev scr 46 6 [.ref 0, .int x1] [.ref 0] w = p_bnd scr 46 6 9 [.ref 0, .int x1] [] (p_ev none 87 0 [.ref 0] [] w)) ∧
  (∀ (scr : pX) (w : pW) (x1 : Int32), p_ev scr 46 9 [.ref 0, .int x1] [] w = p_ev scr 46 10 [.ref 0, .int x1] [.ref 0] w) ∧
  (∀ (scr : pX) (w : pW) (x1 : Int32), p_ev scr 46 10 [.ref 0, .int x1] [.ref 0] w = p_ev scr 46 13 [.ref 0, .int x1] [.ref 5] w) ∧
  (∀ (scr : pX) (w : pW) (x1 : Int32), p_ev scr 46 13 [.ref 0, .int x1] [.ref 5] w = p_ev scr 46 14 [.ref 0, .int x1] [.int x1, .ref 5] w) ∧
  (∀ (scr : pX) (w : pW) (x1 : Int32) (s0 : Int32), p_ev scr 46 14 [.ref 0, .int x1] [.int s0, .ref 5] w = p_bnd scr 46 14 17 [.ref 0, .int x1] [] (p_ev none 24 0 [.ref 5, .int s0] [] w)) ∧
  (∀ (scr : pX) (w : pW) (x1 : Int32) (t0 : Int64), p_ev scr 46 17 [.ref 0, .int x1] [.long t0] w = some (.inl (some (.long t0)), w, 0)) :=
  ⟨fun _ _ _ => p_r (by decide +kernel : p_at 46 0 = some (.aload_n 0)) rfl,
  fun _ _ _ => p_r (by decide +kernel : p_at 46 1 = some (.iload_n 1)) rfl,
  fun _ _ _ _ => p_rcv (nl := 2) (by decide +kernel : p_at 46 2 = some (.invokevirtual 68)) (by decide +kernel : p_inv (p_own 46) 68 = some (1, 75, 2)) (by decide +kernel) (rfl : p_ob 0 = some (.inr (4, [some 1, some 2, some 4, some 3, some 5, some 6, some 7, some 19]))) rfl rfl (Nat.le_of_ble_eq_true rfl) (Nat.le_of_ble_eq_true rfl) (Nat.le_of_ble_eq_true rfl) rfl,
  fun _ _ _ => p_r (by decide +kernel : p_at 46 5 = some (.aload_n 0)) rfl,
  fun _ _ _ => p_rcv (nl := 1) (by decide +kernel : p_at 46 6 = some (.invokevirtual 84)) (by decide +kernel : p_inv (p_own 46) 84 = some (1, 87, 1)) (by decide +kernel) (rfl : p_ob 0 = some (.inr (4, [some 1, some 2, some 4, some 3, some 5, some 6, some 7, some 19]))) rfl rfl (Nat.le_of_ble_eq_true rfl) (Nat.le_of_ble_eq_true rfl) (Nat.le_of_ble_eq_true rfl) rfl,
  fun _ _ _ => p_r (by decide +kernel : p_at 46 9 = some (.aload_n 0)) rfl,
  fun _ _ _ => p_rgf (f := some 5) (by decide +kernel : p_at 46 10 = some (.getfield 37)) (by decide +kernel : p_fld (p_own 46) 37 = some (4, 4)) (rfl : p_ob 0 = some (.inr (4, [some 1, some 2, some 4, some 3, some 5, some 6, some 7, some 19]))) rfl,
  fun _ _ _ => p_r (by decide +kernel : p_at 46 13 = some (.iload_n 1)) rfl,
  fun _ _ _ _ => p_rcv (nl := 2) (by decide +kernel : p_at 46 14 = some (.invokevirtual 76)) (by decide +kernel : p_inv (p_own 46) 76 = some (1, 24, 2)) (by decide +kernel) (rfl : p_ob 5 = some (.inr (2, [some 12]))) rfl rfl (Nat.le_of_ble_eq_true rfl) (Nat.le_of_ble_eq_true rfl) (Nat.le_of_ble_eq_true rfl) rfl,
  fun _ _ _ _ => p_rlret (by decide +kernel : p_at 46 17 = some (.lreturn)) (by decide +kernel)⟩
-- 47: length
theorem M47 :
  (∀ (scr : pX) (w : pW), p_ev scr 47 0 [.ref 0] [] w = p_ev scr 47 1 [.ref 0] [.ref 0] w) ∧
  (∀ (scr : pX) (w : pW), p_ev scr 47 1 [.ref 0] [.ref 0] w = p_ev scr 47 4 [.ref 0] [.ref 1] w) ∧
  (∀ (scr : pX) (w : pW), p_ev scr 47 4 [.ref 0] [.ref 1] w = p_bnd scr 47 4 7 [.ref 0] [] (p_ev none 30 0 [.ref 1] [] w)) ∧
  (∀ (scr : pX) (w : pW) (s0 : Int32), p_ev scr 47 7 [.ref 0] [.int s0] w = some (.inl (some (.int s0)), w, 0)) :=
  ⟨fun _ _ => p_r (by decide +kernel : p_at 47 0 = some (.aload_n 0)) rfl,
  fun _ _ => p_rgf (f := some 1) (by decide +kernel : p_at 47 1 = some (.getfield 10)) (by decide +kernel : p_fld (p_own 47) 10 = some (4, 0)) (rfl : p_ob 0 = some (.inr (4, [some 1, some 2, some 4, some 3, some 5, some 6, some 7, some 19]))) rfl,
  fun _ _ => p_rcv (nl := 1) (by decide +kernel : p_at 47 4 = some (.invokevirtual 57)) (by decide +kernel : p_inv (p_own 47) 57 = some (1, 30, 1)) (by decide +kernel) (rfl : p_ob 1 = some (.inr (3, [some 18, none]))) rfl rfl (Nat.le_of_ble_eq_true rfl) (Nat.le_of_ble_eq_true rfl) (Nat.le_of_ble_eq_true rfl) rfl,
  fun _ _ _ => p_riret (by decide +kernel : p_at 47 7 = some (.ireturn)) (by decide +kernel)⟩
-- 48: setWavelet
theorem M48 :
  (∀ (scr : pX) (w : pW) (x1 : Int32), p_ev scr 48 0 [.ref 0, .int x1, p_U] [] w = p_ev scr 48 1 [.ref 0, .int x1, p_U] [.int x1] w) ∧
  (∀ (scr : pX) (w : pW) (x1 : Int32) (s0 : Int32), p_ev scr 48 1 [.ref 0, .int x1, p_U] [.int s0] w = if s0 < nI 0 then p_ev scr 48 9 [.ref 0, .int x1, p_U] [] w else p_ev scr 48 4 [.ref 0, .int x1, p_U] [] w) ∧
  (∀ (scr : pX) (w : pW) (x1 : Int32), p_ev scr 48 4 [.ref 0, .int x1, p_U] [] w = p_ev scr 48 5 [.ref 0, .int x1, p_U] [.int x1] w) ∧
  (∀ (scr : pX) (w : pW) (x1 : Int32) (s0 : Int32), p_ev scr 48 5 [.ref 0, .int x1, p_U] [.int s0] w = p_ev scr 48 6 [.ref 0, .int x1, p_U] [.int (nI 2), .int s0] w) ∧
  (∀ (scr : pX) (w : pW) (x1 : Int32) (s0 : Int32) (s1 : Int32), p_ev scr 48 6 [.ref 0, .int x1, p_U] [.int s0, .int s1] w = if s1 ≤ s0 then p_ev scr 48 19 [.ref 0, .int x1, p_U] [] w else p_ev scr 48 9 [.ref 0, .int x1, p_U] [] w) ∧
  (∀ (scr : pX) (w : pW) (x1 : Int32), p_ev scr 48 9 [.ref 0, .int x1, p_U] [] w = some (.inr (.inl 0), w, 1)) ∧
  (∀ (scr : pX) (w : pW) (x1 : Int32), p_ev scr 48 19 [.ref 0, .int x1, p_U] [] w = p_ev scr 48 20 [.ref 0, .int x1, p_U] [.ref 0] w) ∧
  (∀ (scr : pX) (w : pW) (x1 : Int32), p_ev scr 48 20 [.ref 0, .int x1, p_U] [.ref 0] w = p_bnd scr 48 20 23 [.ref 0, .int x1, p_U] [] (p_ev none 73 0 [.ref 0] [] w)) ∧
  (∀ (scr : pX) (w : pW) (x1 : Int32), p_ev scr 48 23 [.ref 0, .int x1, p_U] [] w = p_ev scr 48 24 [.ref 0, .int x1, p_U] [.ref 0] w) ∧
  (∀ (scr : pX) (w : pW) (x1 : Int32), p_ev scr 48 24 [.ref 0, .int x1, p_U] [.ref 0] w = p_ev scr 48 27 [.ref 0, .int x1, p_U] [.ref 2] w) ∧
  (∀ (scr : pX) (w : pW) (x1 : Int32), p_ev scr 48 27 [.ref 0, .int x1, p_U] [.ref 2] w = p_bnd scr 48 27 30 [.ref 0, .int x1, p_U] [] (p_ev none 15 0 [.ref 2] [] w)) ∧
  (∀ (scr : pX) (w : pW) (x1 : Int32) (s0 : Int32), p_ev scr 48 30 [.ref 0, .int x1, p_U] [.int s0] w = p_ev scr 48 31 [.ref 0, .int x1, .int s0] [] w) ∧
  (∀ (scr : pX) (w : pW) (x1 : Int32) (x2 : Int32), p_ev scr 48 31 [.ref 0, .int x1, .int x2] [] w = p_ev scr 48 32 [.ref 0, .int x1, .int x2] [.ref 0] w) ∧
  (∀ (scr : pX) (w : pW) (x1 : Int32) (x2 : Int32), p_ev scr 48 32 [.ref 0, .int x1, .int x2] [.ref 0] w = p_ev scr 48 35 [.ref 0, .int x1, .int x2] [.ref 2] w) ∧
  (∀ (scr : pX) (w : pW) (x1 : Int32) (x2 : Int32), p_ev scr 48 35 [.ref 0, .int x1, .int x2] [.ref 2] w = p_ev scr 48 36 [.ref 0, .int x1, .int x2] [.int x1, .ref 2] w) ∧
  (∀ (scr : pX) (w : pW) (x1 : Int32) (x2 : Int32) (s0 : Int32), p_ev scr 48 36 [.ref 0, .int x1, .int x2] [.int s0, .ref 2] w = p_bnd scr 48 36 39 [.ref 0, .int x1, .int x2] [] (p_ev none 16 0 [.ref 2, .int s0] [] w)) ∧
  (∀ (scr : pX) (w : pW) (x1 : Int32) (x2 : Int32), p_ev scr 48 39 [.ref 0, .int x1, .int x2] [] w = p_ev scr 48 40 [.ref 0, .int x1, .int x2] [.int x2] w) ∧
  (∀ (scr : pX) (w : pW) (x1 : Int32) (x2 : Int32) (s0 : Int32), p_ev scr 48 40 [.ref 0, .int x1, .int x2] [.int s0] w = some (.inl (some (.int s0)), w, 0)) :=
  ⟨fun _ _ _ => p_r (by decide +kernel : p_at 48 0 = some (.iload_n 1)) rfl,
  fun _ _ _ _ => p_rb1 (c := fun x => decide (x < 0)) (off := 8) (by decide +kernel : p_at 48 1 = some (.ifCond .lt 8)) (by decide +kernel) rfl rfl rfl,
  fun _ _ _ => p_r (by decide +kernel : p_at 48 4 = some (.iload_n 1)) rfl,
  fun _ _ _ _ => p_r (by decide +kernel : p_at 48 5 = some (.iconst 2)) rfl,
  fun _ _ _ _ _ => p_rb2 (c := fun x y => decide (x ≤ y)) (off := 13) (by decide +kernel : p_at 48 6 = some (.if_icmp .le 13)) (by decide +kernel) rfl rfl rfl,
  fun _ _ _ => p_rnew (by decide +kernel : p_at 48 9 = some (.new 50)) (by decide +kernel) (by decide +kernel : p_at 48 13 = some (.ldc 87)) (by decide +kernel : p_at 48 15 = some (.invokespecial 54)) (by decide +kernel) (by decide +kernel) (by decide +kernel),
  fun _ _ _ => p_r (by decide +kernel : p_at 48 19 = some (.aload_n 0)) rfl,
  fun _ _ _ => p_rcv (nl := 1) (by decide +kernel : p_at 48 20 = some (.invokevirtual 73)) (by decide +kernel : p_inv (p_own 48) 73 = some (1, 73, 1)) (by decide +kernel) (rfl : p_ob 0 = some (.inr (4, [some 1, some 2, some 4, some 3, some 5, some 6, some 7, some 19]))) rfl rfl (Nat.le_of_ble_eq_true rfl) (Nat.le_of_ble_eq_true rfl) (Nat.le_of_ble_eq_true rfl) rfl,
  fun _ _ _ => p_r (by decide +kernel : p_at 48 23 = some (.aload_n 0)) rfl,
  fun _ _ _ => p_rgf (f := some 2) (by decide +kernel : p_at 48 24 = some (.getfield 19)) (by decide +kernel : p_fld (p_own 48) 19 = some (4, 1)) (rfl : p_ob 0 = some (.inr (4, [some 1, some 2, some 4, some 3, some 5, some 6, some 7, some 19]))) rfl,
  fun _ _ _ => p_rcv (nl := 1) (by decide +kernel : p_at 48 27 = some (.invokevirtual 89)) (by decide +kernel : p_inv (p_own 48) 89 = some (1, 15, 1)) (by decide +kernel) (rfl : p_ob 2 = some (.inr (1, [some 8, none]))) rfl rfl (Nat.le_of_ble_eq_true rfl) (Nat.le_of_ble_eq_true rfl) (Nat.le_of_ble_eq_true rfl) rfl,
  fun _ _ _ _ => p_r (by decide +kernel : p_at 48 30 = some (.istore_n 2)) rfl,
  fun _ _ _ _ => p_r (by decide +kernel : p_at 48 31 = some (.aload_n 0)) rfl,
  fun _ _ _ _ => p_rgf (f := some 2) (by decide +kernel : p_at 48 32 = some (.getfield 19)) (by decide +kernel : p_fld (p_own 48) 19 = some (4, 1)) (rfl : p_ob 0 = some (.inr (4, [some 1, some 2, some 4, some 3, some 5, some 6, some 7, some 19]))) rfl,
  fun _ _ _ _ => p_r (by decide +kernel : p_at 48 35 = some (.iload_n 1)) rfl,
  fun _ _ _ _ _ => p_rcv (nl := 2) (by decide +kernel : p_at 48 36 = some (.invokevirtual 92)) (by decide +kernel : p_inv (p_own 48) 92 = some (1, 16, 2)) (by decide +kernel) (rfl : p_ob 2 = some (.inr (1, [some 8, none]))) rfl rfl (Nat.le_of_ble_eq_true rfl) (Nat.le_of_ble_eq_true rfl) (Nat.le_of_ble_eq_true rfl) rfl,
  fun _ _ _ _ => p_r (by decide +kernel : p_at 48 39 = some (.iload_n 2)) rfl,
  fun _ _ _ _ _ => p_riret (by decide +kernel : p_at 48 40 = some (.ireturn)) (by decide +kernel)⟩
-- 49: split
theorem M49 :
  (∀ (scr : pX) (w : pW) (x1 : Int32), p_ev scr 49 0 [.ref 0, .int x1] [] w = p_ev scr 49 1 [.ref 0, .int x1] [.ref 0] w) ∧
  (∀ (scr : pX) (w : pW) (x1 : Int32), p_ev scr 49 1 [.ref 0, .int x1] [.ref 0] w = p_ev scr 49 2 [.ref 0, .int x1] [.int x1, .ref 0] w) ∧
  (∀ (scr : pX) (w : pW) (x1 : Int32) (s0 : Int32), p_ev scr 49 2 [.ref 0, .int x1] [.int s0, .ref 0] w = p_bnd scr 49 2 5 [.ref 0, .int x1] [] (p_ev none 71 0 [.ref 0, .int s0] [] w)) ∧
  (∀ (scr : pX) (w : pW) (x1 : Int32), p_ev scr 49 5 [.ref 0, .int x1] [] w = p_ev scr 49 6 [.ref 0, .int x1] [.ref 0] w) ∧
  (∀ (scr : pX) (w : pW) (x1 : Int32), p_ev scr 49 6 [.ref 0, .int x1] [.ref 0] w = p_ev scr 49 9 [.ref 0, .int x1] [.ref 1] w) ∧
  (∀ (scr : pX) (w : pW) (x1 : Int32), p_ev scr 49 9 [.ref 0, .int x1] [.ref 1] w = p_ev scr 49 10 [.ref 0, .int x1] [.int x1, .ref 1] w) ∧
  (∀ (scr : pX) (w : pW) (x1 : Int32) (s0 : Int32), p_ev scr 49 10 [.ref 0, .int x1] [.int s0, .ref 1] w = p_bnd scr 49 10 13 [.ref 0, .int x1] [] (p_ev none 34 0 [.ref 1, .int s0] [] w)) ∧
  (∀ (scr : pX) (w : pW) (x1 : Int32) (s0 : Int32), p_ev scr 49 13 [.ref 0, .int x1] [.int s0] w = if ¬ s0 = nI 0 then p_ev scr 49 26 [.ref 0, .int x1] [] w else p_ev scr 49 16 [.ref 0, .int x1] [] w) ∧
  (∀ (scr : pX) (w : pW) (x1 : Int32), p_ev scr 49 16 [.ref 0, .int x1] [] w = some (.inr (.inl 1), w, 1)) ∧
  (∀ (scr : pX) (w : pW) (x1 : Int32), p_ev scr 49 26 [.ref 0, .int x1] [] w = p_ev scr 49 27 [.ref 0, .int x1] [.ref 0] w) ∧
  (∀ (scr : pX) (w : pW) (x1 : Int32), p_ev scr 49 27 [.ref 0, .int x1] [.ref 0] w = p_ev scr 49 28 [.ref 0, .int x1] [.int x1, .ref 0] w) ∧
  (∀ (scr : pX) (w : pW) (x1 : Int32) (s0 : Int32), p_ev scr 49 28 [.ref 0, .int x1] [.int s0, .ref 0] w = p_bnd scr 49 28 31 [.ref 0, .int x1] [] (p_ev none 80 0 [.ref 0, .int s0] [] w)) ∧
  (∀ (scr : pX) (w : pW) (x1 : Int32), p_ev scr 49 31 [.ref 0, .int x1] [] w = p_ev scr 49 32 [.ref 0, .int x1] [.ref 0] w) ∧
  (∀ (scr : pX) (w : pW) (x1 : Int32), p_ev scr 49 32 [.ref 0, .int x1] [.ref 0] w = p_ev scr 49 35 [.ref 0, .int x1] [.ref 1] w) ∧
  (∀ (scr : pX) (w : pW) (x1 : Int32), p_ev scr 49 35 [.ref 0, .int x1] [.ref 1] w = p_ev scr 49 36 [.ref 0, .int x1] [.int x1, .ref 1] w) ∧
  (∀ (scr : pX) (w : pW) (x1 : Int32) (s0 : Int32), p_ev scr 49 36 [.ref 0, .int x1] [.int s0, .ref 1] w = p_bnd scr 49 36 39 [.ref 0, .int x1] [] (p_ev none 39 0 [.ref 1, .int s0] [] w)) ∧
  (∀ (scr : pX) (w : pW) (x1 : Int32) (s0 : Int32), p_ev scr 49 39 [.ref 0, .int x1] [.int s0] w = p_ev scr 49 40 [.ref 0, .int x1] [.int (nI 2), .int s0] w) ∧
  (∀ (scr : pX) (w : pW) (x1 : Int32) (s0 : Int32) (s1 : Int32), ¬ s0 = 0 → p_ev scr 49 40 [.ref 0, .int x1] [.int s0, .int s1] w = p_ev scr 49 41 [.ref 0, .int x1] [.int (s1 / s0)] w) ∧
  (∀ (scr : pX) (w : pW) (x1 : Int32) (s0 : Int32), p_ev scr 49 41 [.ref 0, .int x1] [.int s0] w = some (.inl (some (.int s0)), w, 0)) :=
  ⟨fun _ _ _ => p_r (by decide +kernel : p_at 49 0 = some (.aload_n 0)) rfl,
  fun _ _ _ => p_r (by decide +kernel : p_at 49 1 = some (.iload_n 1)) rfl,
  fun _ _ _ _ => p_rcv (nl := 2) (by decide +kernel : p_at 49 2 = some (.invokevirtual 95)) (by decide +kernel : p_inv (p_own 49) 95 = some (1, 71, 2)) (by decide +kernel) (rfl : p_ob 0 = some (.inr (4, [some 1, some 2, some 4, some 3, some 5, some 6, some 7, some 19]))) rfl rfl (Nat.le_of_ble_eq_true rfl) (Nat.le_of_ble_eq_true rfl) (Nat.le_of_ble_eq_true rfl) rfl,
  fun _ _ _ => p_r (by decide +kernel : p_at 49 5 = some (.aload_n 0)) rfl,
  fun _ _ _ => p_rgf (f := some 1) (by decide +kernel : p_at 49 6 = some (.getfield 10)) (by decide +kernel : p_fld (p_own 49) 10 = some (4, 0)) (rfl : p_ob 0 = some (.inr (4, [some 1, some 2, some 4, some 3, some 5, some 6, some 7, some 19]))) rfl,
  fun _ _ _ => p_r (by decide +kernel : p_at 49 9 = some (.iload_n 1)) rfl,
  fun _ _ _ _ => p_rcv (nl := 2) (by decide +kernel : p_at 49 10 = some (.invokevirtual 98)) (by decide +kernel : p_inv (p_own 49) 98 = some (1, 34, 2)) (by decide +kernel) (rfl : p_ob 1 = some (.inr (3, [some 18, none]))) rfl rfl (Nat.le_of_ble_eq_true rfl) (Nat.le_of_ble_eq_true rfl) (Nat.le_of_ble_eq_true rfl) rfl,
  fun _ _ _ _ => p_rb1 (c := fun x => decide (¬ x = 0)) (off := 13) (by decide +kernel : p_at 49 13 = some (.ifCond .ne 13)) (by decide +kernel) rfl rfl rfl,
  fun _ _ _ => p_rnew (by decide +kernel : p_at 49 16 = some (.new 102)) (by decide +kernel) (by decide +kernel : p_at 49 20 = some (.ldc 104)) (by decide +kernel : p_at 49 22 = some (.invokespecial 106)) (by decide +kernel) (by decide +kernel) (by decide +kernel),
  fun _ _ _ => p_r (by decide +kernel : p_at 49 26 = some (.aload_n 0)) rfl,
  fun _ _ _ => p_r (by decide +kernel : p_at 49 27 = some (.iload_n 1)) rfl,
  fun _ _ _ _ => p_rcv (nl := 2) (by decide +kernel : p_at 49 28 = some (.invokevirtual 107)) (by decide +kernel : p_inv (p_own 49) 107 = some (1, 80, 2)) (by decide +kernel) (rfl : p_ob 0 = some (.inr (4, [some 1, some 2, some 4, some 3, some 5, some 6, some 7, some 19]))) rfl rfl (Nat.le_of_ble_eq_true rfl) (Nat.le_of_ble_eq_true rfl) (Nat.le_of_ble_eq_true rfl) rfl,
  fun _ _ _ => p_r (by decide +kernel : p_at 49 31 = some (.aload_n 0)) rfl,
  fun _ _ _ => p_rgf (f := some 1) (by decide +kernel : p_at 49 32 = some (.getfield 10)) (by decide +kernel : p_fld (p_own 49) 10 = some (4, 0)) (rfl : p_ob 0 = some (.inr (4, [some 1, some 2, some 4, some 3, some 5, some 6, some 7, some 19]))) rfl,
  fun _ _ _ => p_r (by decide +kernel : p_at 49 35 = some (.iload_n 1)) rfl,
  fun _ _ _ _ => p_rcv (nl := 2) (by decide +kernel : p_at 49 36 = some (.invokevirtual 110)) (by decide +kernel : p_inv (p_own 49) 110 = some (1, 39, 2)) (by decide +kernel) (rfl : p_ob 1 = some (.inr (3, [some 18, none]))) rfl rfl (Nat.le_of_ble_eq_true rfl) (Nat.le_of_ble_eq_true rfl) (Nat.le_of_ble_eq_true rfl) rfl,
  fun _ _ _ _ => p_r (by decide +kernel : p_at 49 39 = some (.iconst 2)) rfl,
  fun _ _ _ _ _ hp => p_ridiv (by decide +kernel : p_at 49 40 = some (.idiv)) hp,
  fun _ _ _ _ => p_riret (by decide +kernel : p_at 49 41 = some (.ireturn)) (by decide +kernel)⟩
-- 50: join
theorem M50 :
  (∀ (scr : pX) (w : pW) (x1 : Int32), p_ev scr 50 0 [.ref 0, .int x1] [] w = p_ev scr 50 1 [.ref 0, .int x1] [.ref 0] w) ∧
  (∀ (scr : pX) (w : pW) (x1 : Int32), p_ev scr 50 1 [.ref 0, .int x1] [.ref 0] w = p_ev scr 50 2 [.ref 0, .int x1] [.int x1, .ref 0] w) ∧
  (∀ (scr : pX) (w : pW) (x1 : Int32) (s0 : Int32), p_ev scr 50 2 [.ref 0, .int x1] [.int s0, .ref 0] w = p_bnd scr 50 2 5 [.ref 0, .int x1] [] (p_ev none 71 0 [.ref 0, .int s0] [] w)) ∧
  (∀ (scr : pX) (w : pW) (x1 : Int32), p_ev scr 50 5 [.ref 0, .int x1] [] w = p_ev scr 50 6 [.ref 0, .int x1] [.ref 0] w) ∧
  (∀ (scr : pX) (w : pW) (x1 : Int32), p_ev scr 50 6 [.ref 0, .int x1] [.ref 0] w = p_ev scr 50 9 [.ref 0, .int x1] [.ref 1] w) ∧
  (∀ (scr : pX) (w : pW) (x1 : Int32), p_ev scr 50 9 [.ref 0, .int x1] [.ref 1] w = p_ev scr 50 10 [.ref 0, .int x1] [.int x1, .ref 1] w) ∧
  (∀ (scr : pX) (w : pW) (x1 : Int32) (s0 : Int32), p_ev scr 50 10 [.ref 0, .int x1] [.int s0, .ref 1] w = p_bnd scr 50 10 13 [.ref 0, .int x1] [] (p_ev none 33 0 [.ref 1, .int s0] [] w)) ∧
  (∀ (scr : pX) (w : pW) (x1 : Int32) (s0 : Int32), p_ev scr 50 13 [.ref 0, .int x1] [.int s0] w = if ¬ s0 = nI 0 then p_ev scr 50 26 [.ref 0, .int x1] [] w else p_ev scr 50 16 [.ref 0, .int x1] [] w) ∧
  (∀ (scr : pX) (w : pW) (x1 : Int32), p_ev scr 50 16 [.ref 0, .int x1] [] w = some (.inr (.inl 1), w, 1)) ∧
  (∀ (scr : pX) (w : pW) (x1 : Int32), p_ev scr 50 26 [.ref 0, .int x1] [] w = p_ev scr 50 27 [.ref 0, .int x1] [.ref 0] w) ∧
  (∀ (scr : pX) (w : pW) (x1 : Int32), p_ev scr 50 27 [.ref 0, .int x1] [.ref 0] w = p_ev scr 50 28 [.ref 0, .int x1] [.int x1, .ref 0] w) ∧
  (∀ (scr : pX) (w : pW) (x1 : Int32) (s0 : Int32), p_ev scr 50 28 [.ref 0, .int x1] [.int s0, .ref 0] w = p_bnd scr 50 28 31 [.ref 0, .int x1] [] (p_ev none 81 0 [.ref 0, .int s0, p_U] [] w)) ∧
  (∀ (scr : pX) (w : pW) (x1 : Int32) (s0 : Int32), p_ev scr 50 31 [.ref 0, .int x1] [.int s0] w = some (.inl (some (.int s0)), w, 0)) :=
  ⟨fun _ _ _ => p_r (by decide +kernel : p_at 50 0 = some (.aload_n 0)) rfl,
  fun _ _ _ => p_r (by decide +kernel : p_at 50 1 = some (.iload_n 1)) rfl,
  fun _ _ _ _ => p_rcv (nl := 2) (by decide +kernel : p_at 50 2 = some (.invokevirtual 95)) (by decide +kernel : p_inv (p_own 50) 95 = some (1, 71, 2)) (by decide +kernel) (rfl : p_ob 0 = some (.inr (4, [some 1, some 2, some 4, some 3, some 5, some 6, some 7, some 19]))) rfl rfl (Nat.le_of_ble_eq_true rfl) (Nat.le_of_ble_eq_true rfl) (Nat.le_of_ble_eq_true rfl) rfl,
  fun _ _ _ => p_r (by decide +kernel : p_at 50 5 = some (.aload_n 0)) rfl,
  fun _ _ _ => p_rgf (f := some 1) (by decide +kernel : p_at 50 6 = some (.getfield 10)) (by decide +kernel : p_fld (p_own 50) 10 = some (4, 0)) (rfl : p_ob 0 = some (.inr (4, [some 1, some 2, some 4, some 3, some 5, some 6, some 7, some 19]))) rfl,
  fun _ _ _ => p_r (by decide +kernel : p_at 50 9 = some (.iload_n 1)) rfl,
  fun _ _ _ _ => p_rcv (nl := 2) (by decide +kernel : p_at 50 10 = some (.invokevirtual 114)) (by decide +kernel : p_inv (p_own 50) 114 = some (1, 33, 2)) (by decide +kernel) (rfl : p_ob 1 = some (.inr (3, [some 18, none]))) rfl rfl (Nat.le_of_ble_eq_true rfl) (Nat.le_of_ble_eq_true rfl) (Nat.le_of_ble_eq_true rfl) rfl,
  fun _ _ _ _ => p_rb1 (c := fun x => decide (¬ x = 0)) (off := 13) (by decide +kernel : p_at 50 13 = some (.ifCond .ne 13)) (by decide +kernel) rfl rfl rfl,
  fun _ _ _ => p_rnew (by decide +kernel : p_at 50 16 = some (.new 102)) (by decide +kernel) (by decide +kernel : p_at 50 20 = some (.ldc 117)) (by decide +kernel : p_at 50 22 = some (.invokespecial 106)) (by decide +kernel) (by decide +kernel) (by decide +kernel),
  fun _ _ _ => p_r (by decide +kernel : p_at 50 26 = some (.aload_n 0)) rfl,
  fun _ _ _ => p_r (by decide +kernel : p_at 50 27 = some (.iload_n 1)) rfl,
  fun _ _ _ _ => p_rcv (nl := 3) (by decide +kernel : p_at 50 28 = some (.invokevirtual 119)) (by decide +kernel : p_inv (p_own 50) 119 = some (1, 81, 2)) (by decide +kernel) (rfl : p_ob 0 = some (.inr (4, [some 1, some 2, some 4, some 3, some 5, some 6, some 7, some 19]))) rfl rfl (Nat.le_of_ble_eq_true rfl) (Nat.le_of_ble_eq_true rfl) (Nat.le_of_ble_eq_true rfl) rfl,
  fun _ _ _ _ => p_riret (by decide +kernel : p_at 50 31 = some (.ireturn)) (by decide +kernel)⟩
-- 51: isNode
theorem M51 :
  (∀ (scr : pX) (w : pW) (x1 : Int32), p_ev scr 51 0 [.ref 0, .int x1] [] w = p_ev scr 51 1 [.ref 0, .int x1] [.ref 0] w) ∧
  (∀ (scr : pX) (w : pW) (x1 : Int32), p_ev scr 51 1 [.ref 0, .int x1] [.ref 0] w = p_ev scr 51 4 [.ref 0, .int x1] [.ref 1] w) ∧
  (∀ (scr : pX) (w : pW) (x1 : Int32), p_ev scr 51 4 [.ref 0, .int x1] [.ref 1] w = p_ev scr 51 5 [.ref 0, .int x1] [.int x1, .ref 1] w) ∧
  (∀ (scr : pX) (w : pW) (x1 : Int32) (s0 : Int32), p_ev scr 51 5 [.ref 0, .int x1] [.int s0, .ref 1] w = p_bnd scr 51 5 8 [.ref 0, .int x1] [] (p_ev none 32 0 [.ref 1, .int s0] [] w)) ∧
  (∀ (scr : pX) (w : pW) (x1 : Int32) (s0 : Int32), narrow .boolean (.int s0) = .int s0 → p_ev scr 51 8 [.ref 0, .int x1] [.int s0] w = some (.inl (some (.int s0)), w, 0)) :=
  ⟨fun _ _ _ => p_r (by decide +kernel : p_at 51 0 = some (.aload_n 0)) rfl,
  fun _ _ _ => p_rgf (f := some 1) (by decide +kernel : p_at 51 1 = some (.getfield 10)) (by decide +kernel : p_fld (p_own 51) 10 = some (4, 0)) (rfl : p_ob 0 = some (.inr (4, [some 1, some 2, some 4, some 3, some 5, some 6, some 7, some 19]))) rfl,
  fun _ _ _ => p_r (by decide +kernel : p_at 51 4 = some (.iload_n 1)) rfl,
  fun _ _ _ _ => p_rcv (nl := 2) (by decide +kernel : p_at 51 5 = some (.invokevirtual 122)) (by decide +kernel : p_inv (p_own 51) 122 = some (1, 32, 2)) (by decide +kernel) (rfl : p_ob 1 = some (.inr (3, [some 18, none]))) rfl rfl (Nat.le_of_ble_eq_true rfl) (Nat.le_of_ble_eq_true rfl) (Nat.le_of_ble_eq_true rfl) rfl,
  fun _ _ _ _ hp => p_rzret (by decide +kernel : p_at 51 8 = some (.ireturn)) (by decide +kernel) hp⟩
-- 52: isLeaf
theorem M52 :
  (∀ (scr : pX) (w : pW) (x1 : Int32), p_ev scr 52 0 [.ref 0, .int x1] [] w = p_ev scr 52 1 [.ref 0, .int x1] [.ref 0] w) ∧
  (∀ (scr : pX) (w : pW) (x1 : Int32), p_ev scr 52 1 [.ref 0, .int x1] [.ref 0] w = p_ev scr 52 2 [.ref 0, .int x1] [.int x1, .ref 0] w) ∧
  (∀ (scr : pX) (w : pW) (x1 : Int32) (s0 : Int32), p_ev scr 52 2 [.ref 0, .int x1] [.int s0, .ref 0] w = p_bnd scr 52 2 5 [.ref 0, .int x1] [] (p_ev none 71 0 [.ref 0, .int s0] [] w)) ∧
  (∀ (scr : pX) (w : pW) (x1 : Int32), p_ev scr 52 5 [.ref 0, .int x1] [] w = p_ev scr 52 6 [.ref 0, .int x1] [.ref 0] w) ∧
  (∀ (scr : pX) (w : pW) (x1 : Int32), p_ev scr 52 6 [.ref 0, .int x1] [.ref 0] w = p_ev scr 52 9 [.ref 0, .int x1] [.ref 1] w) ∧
  (∀ (scr : pX) (w : pW) (x1 : Int32), p_ev scr 52 9 [.ref 0, .int x1] [.ref 1] w = p_ev scr 52 10 [.ref 0, .int x1] [.int x1, .ref 1] w) ∧
  (∀ (scr : pX) (w : pW) (x1 : Int32) (s0 : Int32), p_ev scr 52 10 [.ref 0, .int x1] [.int s0, .ref 1] w = p_bnd scr 52 10 13 [.ref 0, .int x1] [] (p_ev none 33 0 [.ref 1, .int s0] [] w)) ∧
  (∀ (scr : pX) (w : pW) (x1 : Int32) (s0 : Int32), p_ev scr 52 13 [.ref 0, .int x1] [.int s0] w = if ¬ s0 = nI 0 then p_ev scr 52 20 [.ref 0, .int x1] [] w else p_ev scr 52 16 [.ref 0, .int x1] [] w) ∧
  (∀ (scr : pX) (w : pW) (x1 : Int32), p_ev scr 52 16 [.ref 0, .int x1] [] w = p_ev scr 52 17 [.ref 0, .int x1] [.int (nI 1)] w) ∧
  (∀ (scr : pX) (w : pW) (x1 : Int32) (s0 : Int32), p_ev scr 52 17 [.ref 0, .int x1] [.int s0] w = p_ev scr 52 21 [.ref 0, .int x1] [.int s0] w) ∧
  (∀ (scr : pX) (w : pW) (x1 : Int32), p_ev scr 52 20 [.ref 0, .int x1] [] w = p_ev scr 52 21 [.ref 0, .int x1] [.int (nI 0)] w) ∧
  (∀ (scr : pX) (w : pW) (x1 : Int32) (s0 : Int32), narrow .boolean (.int s0) = .int s0 → p_ev scr 52 21 [.ref 0, .int x1] [.int s0] w = some (.inl (some (.int s0)), w, 0)) :=
  ⟨fun _ _ _ => p_r (by decide +kernel : p_at 52 0 = some (.aload_n 0)) rfl,
  fun _ _ _ => p_r (by decide +kernel : p_at 52 1 = some (.iload_n 1)) rfl,
  fun _ _ _ _ => p_rcv (nl := 2) (by decide +kernel : p_at 52 2 = some (.invokevirtual 95)) (by decide +kernel : p_inv (p_own 52) 95 = some (1, 71, 2)) (by decide +kernel) (rfl : p_ob 0 = some (.inr (4, [some 1, some 2, some 4, some 3, some 5, some 6, some 7, some 19]))) rfl rfl (Nat.le_of_ble_eq_true rfl) (Nat.le_of_ble_eq_true rfl) (Nat.le_of_ble_eq_true rfl) rfl,
  fun _ _ _ => p_r (by decide +kernel : p_at 52 5 = some (.aload_n 0)) rfl,
  fun _ _ _ => p_rgf (f := some 1) (by decide +kernel : p_at 52 6 = some (.getfield 10)) (by decide +kernel : p_fld (p_own 52) 10 = some (4, 0)) (rfl : p_ob 0 = some (.inr (4, [some 1, some 2, some 4, some 3, some 5, some 6, some 7, some 19]))) rfl,
  fun _ _ _ => p_r (by decide +kernel : p_at 52 9 = some (.iload_n 1)) rfl,
  fun _ _ _ _ => p_rcv (nl := 2) (by decide +kernel : p_at 52 10 = some (.invokevirtual 114)) (by decide +kernel : p_inv (p_own 52) 114 = some (1, 33, 2)) (by decide +kernel) (rfl : p_ob 1 = some (.inr (3, [some 18, none]))) rfl rfl (Nat.le_of_ble_eq_true rfl) (Nat.le_of_ble_eq_true rfl) (Nat.le_of_ble_eq_true rfl) rfl,
  fun _ _ _ _ => p_rb1 (c := fun x => decide (¬ x = 0)) (off := 7) (by decide +kernel : p_at 52 13 = some (.ifCond .ne 7)) (by decide +kernel) rfl rfl rfl,
  fun _ _ _ => p_r (by decide +kernel : p_at 52 16 = some (.iconst 1)) rfl,
  fun _ _ _ _ => p_rgo (by decide +kernel : p_at 52 17 = some (.goto 4)) (by decide +kernel),
  fun _ _ _ => p_r (by decide +kernel : p_at 52 20 = some (.iconst 0)) rfl,
  fun _ _ _ _ hp => p_rzret (by decide +kernel : p_at 52 21 = some (.ireturn)) (by decide +kernel) hp⟩
-- 53: leaves
theorem M53 :
  (∀ (scr : pX) (w : pW), p_ev scr 53 0 [.ref 0] [] w = p_ev scr 53 1 [.ref 0] [.ref 0] w) ∧
  (∀ (scr : pX) (w : pW), p_ev scr 53 1 [.ref 0] [.ref 0] w = p_ev scr 53 4 [.ref 0] [.ref 1] w) ∧
  (∀ (scr : pX) (w : pW), p_ev scr 53 4 [.ref 0] [.ref 1] w = p_bnd scr 53 4 7 [.ref 0] [] (p_ev none 42 0 [.ref 1, p_U, p_U] [] w)) ∧
  (∀ (scr : pX) (w : pW) (s0 : Int32), p_ev scr 53 7 [.ref 0] [.int s0] w = some (.inl (some (.int s0)), w, 0)) :=
  ⟨fun _ _ => p_r (by decide +kernel : p_at 53 0 = some (.aload_n 0)) rfl,
  fun _ _ => p_rgf (f := some 1) (by decide +kernel : p_at 53 1 = some (.getfield 10)) (by decide +kernel : p_fld (p_own 53) 10 = some (4, 0)) (rfl : p_ob 0 = some (.inr (4, [some 1, some 2, some 4, some 3, some 5, some 6, some 7, some 19]))) rfl,
  fun _ _ => p_rcv (nl := 3) (by decide +kernel : p_at 53 4 = some (.invokevirtual 125)) (by decide +kernel : p_inv (p_own 53) 125 = some (1, 42, 1)) (by decide +kernel) (rfl : p_ob 1 = some (.inr (3, [some 18, none]))) rfl rfl (Nat.le_of_ble_eq_true rfl) (Nat.le_of_ble_eq_true rfl) (Nat.le_of_ble_eq_true rfl) rfl,
  fun _ _ _ => p_riret (by decide +kernel : p_at 53 7 = some (.ireturn)) (by decide +kernel)⟩
-- 54: leafAt
theorem M54 :
  (∀ (scr : pX) (w : pW) (x1 : Int32), p_ev scr 54 0 [.ref 0, .int x1, p_U, p_U] [] w = p_ev scr 54 1 [.ref 0, .int x1, p_U, p_U] [.int x1] w) ∧
  (∀ (scr : pX) (w : pW) (x1 : Int32) (s0 : Int32), p_ev scr 54 1 [.ref 0, .int x1, p_U, p_U] [.int s0] w = if s0 < nI 0 then p_ev scr 54 15 [.ref 0, .int x1, p_U, p_U] [] w else p_ev scr 54 4 [.ref 0, .int x1, p_U, p_U] [] w) ∧
  (∀ (scr : pX) (w : pW) (x1 : Int32), p_ev scr 54 4 [.ref 0, .int x1, p_U, p_U] [] w = p_ev scr 54 5 [.ref 0, .int x1, p_U, p_U] [.int x1] w) ∧
  (∀ (scr : pX) (w : pW) (x1 : Int32) (s0 : Int32), p_ev scr 54 5 [.ref 0, .int x1, p_U, p_U] [.int s0] w = p_ev scr 54 6 [.ref 0, .int x1, p_U, p_U] [.ref 0, .int s0] w) ∧
  (∀ (scr : pX) (w : pW) (x1 : Int32) (s1 : Int32), p_ev scr 54 6 [.ref 0, .int x1, p_U, p_U] [.ref 0, .int s1] w = p_ev scr 54 9 [.ref 0, .int x1, p_U, p_U] [.ref 1, .int s1] w) ∧
  (∀ (scr : pX) (w : pW) (x1 : Int32) (s1 : Int32), p_ev scr 54 9 [.ref 0, .int x1, p_U, p_U] [.ref 1, .int s1] w = p_bnd scr 54 9 12 [.ref 0, .int x1, p_U, p_U] [.int s1] (p_ev none 42 0 [.ref 1, p_U, p_U] [] w)) ∧
  (∀ (scr : pX) (w : pW) (x1 : Int32) (s0 : Int32) (s1 : Int32), p_ev scr 54 12 [.ref 0, .int x1, p_U, p_U] [.int s0, .int s1] w = if s1 < s0 then p_ev scr 54 25 [.ref 0, .int x1, p_U, p_U] [] w else p_ev scr 54 15 [.ref 0, .int x1, p_U, p_U] [] w) ∧
  (∀ (scr : pX) (w : pW) (x1 : Int32), p_ev scr 54 15 [.ref 0, .int x1, p_U, p_U] [] w = some (.inr (.inl 2), w, 1)) ∧
  (∀ (scr : pX) (w : pW) (x1 : Int32), p_ev scr 54 25 [.ref 0, .int x1, p_U, p_U] [] w = p_ev scr 54 26 [.ref 0, .int x1, p_U, p_U] [.int (nI 0)] w) ∧
  (∀ (scr : pX) (w : pW) (x1 : Int32) (s0 : Int32), p_ev scr 54 26 [.ref 0, .int x1, p_U, p_U] [.int s0] w = p_ev scr 54 27 [.ref 0, .int x1, .int s0, p_U] [] w) ∧
  (∀ (scr : pX) (w : pW) (x1 : Int32) (x2 : Int32), p_ev scr 54 27 [.ref 0, .int x1, .int x2, p_U] [] w = p_ev scr 54 28 [.ref 0, .int x1, .int x2, p_U] [.int (nI 0)] w) ∧
  (∀ (scr : pX) (w : pW) (x1 : Int32) (x2 : Int32) (s0 : Int32), p_ev scr 54 28 [.ref 0, .int x1, .int x2, p_U] [.int s0] w = p_ev scr 54 29 [.ref 0, .int x1, .int x2, .int s0] [] w) ∧
  (∀ (scr : pX) (w : pW) (x1 : Int32) (x2 : Int32) (x3 : Int32) (s0 : Int32), p_ev scr 54 30 [.ref 0, .int x1, .int x2, .int x3] [.int s0] w = p_ev scr 54 31 [.ref 0, .int x1, .int x2, .int x3] [.int x1, .int s0] w) ∧
  (∀ (scr : pX) (w : pW) (x1 : Int32) (x2 : Int32) (x3 : Int32) (s0 : Int32) (s1 : Int32), p_ev scr 54 31 [.ref 0, .int x1, .int x2, .int x3] [.int s0, .int s1] w = if s0 ≤ s1 then p_ev scr 54 58 [.ref 0, .int x1, .int x2, .int x3] [] w else p_ev scr 54 34 [.ref 0, .int x1, .int x2, .int x3] [] w) ∧
  (∀ (scr : pX) (w : pW) (x1 : Int32) (x2 : Int32) (x3 : Int32), p_ev scr 54 34 [.ref 0, .int x1, .int x2, .int x3] [] w = p_ev scr 54 35 [.ref 0, .int x1, .int x2, .int x3] [.int x2] w) ∧
  (∀ (scr : pX) (w : pW) (x1 : Int32) (x2 : Int32) (x3 : Int32) (s0 : Int32), p_ev scr 54 35 [.ref 0, .int x1, .int x2, .int x3] [.int s0] w = p_ev scr 54 36 [.ref 0, .int x1, .int x2, .int x3] [.ref 0, .int s0] w) ∧
  (∀ (scr : pX) (w : pW) (x1 : Int32) (x2 : Int32) (x3 : Int32) (s1 : Int32), p_ev scr 54 36 [.ref 0, .int x1, .int x2, .int x3] [.ref 0, .int s1] w = p_ev scr 54 39 [.ref 0, .int x1, .int x2, .int x3] [.ref 1, .int s1] w) ∧
  (∀ (scr : pX) (w : pW) (x1 : Int32) (x2 : Int32) (x3 : Int32) (s1 : Int32), p_ev scr 54 39 [.ref 0, .int x1, .int x2, .int x3] [.ref 1, .int s1] w = p_ev scr 54 40 [.ref 0, .int x1, .int x2, .int x3] [.ref 0, .ref 1, .int s1] w) ∧
  (∀ (scr : pX) (w : pW) (x1 : Int32) (x2 : Int32) (x3 : Int32) (s2 : Int32), p_ev scr 54 40 [.ref 0, .int x1, .int x2, .int x3] [.ref 0, .ref 1, .int s2] w = p_ev scr 54 43 [.ref 0, .int x1, .int x2, .int x3] [.ref 1, .ref 1, .int s2] w) ∧
  (∀ (scr : pX) (w : pW) (x1 : Int32) (x2 : Int32) (x3 : Int32) (s2 : Int32), p_ev scr 54 43 [.ref 0, .int x1, .int x2, .int x3] [.ref 1, .ref 1, .int s2] w = p_ev scr 54 44 [.ref 0, .int x1, .int x2, .int x3] [.int x2, .ref 1, .ref 1, .int s2] w) ∧
  (∀ (scr : pX) (w : pW) (x1 : Int32) (x2 : Int32) (x3 : Int32) (s0 : Int32) (s3 : Int32), p_ev scr 54 44 [.ref 0, .int x1, .int x2, .int x3] [.int s0, .ref 1, .ref 1, .int s3] w = p_bnd scr 54 44 47 [.ref 0, .int x1, .int x2, .int x3] [.ref 1, .int s3] (p_ev none 41 0 [.ref 1, .int s0, p_U, p_U, p_U] [] w)) ∧
  (∀ (scr : pX) (w : pW) (x1 : Int32) (x2 : Int32) (x3 : Int32) (s0 : Int32) (s2 : Int32), p_ev scr 54 47 [.ref 0, .int x1, .int x2, .int x3] [.int s0, .ref 1, .int s2] w = p_bnd scr 54 47 50 [.ref 0, .int x1, .int x2, .int x3] [.int s2] (p_ev none 39 0 [.ref 1, .int s0] [] w)) ∧
  (∀ (scr : pX) (w : pW) (x1 : Int32) (x2 : Int32) (x3 : Int32) (s0 : Int32) (s1 : Int32), p_ev scr 54 50 [.ref 0, .int x1, .int x2, .int x3] [.int s0, .int s1] w = p_ev scr 54 51 [.ref 0, .int x1, .int x2, .int x3] [.int (s1 + s0)] w) ∧
  (∀ (scr : pX) (w : pW) (x1 : Int32) (x2 : Int32) (x3 : Int32) (s0 : Int32), p_ev scr 54 51 [.ref 0, .int x1, .int x2, .int x3] [.int s0] w = p_ev scr 54 52 [.ref 0, .int x1, .int s0, .int x3] [] w) ∧
  (∀ (scr : pX) (w : pW) (x1 : Int32) (x2 : Int32) (x3 : Int32), p_ev scr 54 52 [.ref 0, .int x1, .int x2, .int x3] [] w = p_ev scr 54 55 [.ref 0, .int x1, .int x2, .int (x3 + (nI 1))] [] w) ∧
  (∀ (scr : pX) (w : pW) (x1 : Int32) (x2 : Int32) (x3 : Int32), p_ev scr 54 55 [.ref 0, .int x1, .int x2, .int x3] [] w = p_ev scr 54 29 [.ref 0, .int x1, .int x2, .int x3] [] w) ∧
  (∀ (scr : pX) (w : pW) (x1 : Int32) (x2 : Int32) (x3 : Int32), p_ev scr 54 58 [.ref 0, .int x1, .int x2, .int x3] [] w = p_ev scr 54 59 [.ref 0, .int x1, .int x2, .int x3] [.ref 0] w) ∧
  (∀ (scr : pX) (w : pW) (x1 : Int32) (x2 : Int32) (x3 : Int32), p_ev scr 54 59 [.ref 0, .int x1, .int x2, .int x3] [.ref 0] w = p_ev scr 54 62 [.ref 0, .int x1, .int x2, .int x3] [.ref 1] w) ∧
  (∀ (scr : pX) (w : pW) (x1 : Int32) (x2 : Int32) (x3 : Int32), p_ev scr 54 62 [.ref 0, .int x1, .int x2, .int x3] [.ref 1] w = p_ev scr 54 63 [.ref 0, .int x1, .int x2, .int x3] [.int x2, .ref 1] w) ∧
  (∀ (scr : pX) (w : pW) (x1 : Int32) (x2 : Int32) (x3 : Int32) (s0 : Int32), p_ev scr 54 63 [.ref 0, .int x1, .int x2, .int x3] [.int s0, .ref 1] w = p_bnd scr 54 63 66 [.ref 0, .int x1, .int x2, .int x3] [] (p_ev none 41 0 [.ref 1, .int s0, p_U, p_U, p_U] [] w)) ∧
  (∀ (scr : pX) (w : pW) (x1 : Int32) (x2 : Int32) (x3 : Int32) (s0 : Int32), p_ev scr 54 66 [.ref 0, .int x1, .int x2, .int x3] [.int s0] w = some (.inl (some (.int s0)), w, 0)) :=
  ⟨fun _ _ _ => p_r (by decide +kernel : p_at 54 0 = some (.iload_n 1)) rfl,
  fun _ _ _ _ => p_rb1 (c := fun x => decide (x < 0)) (off := 14) (by decide +kernel : p_at 54 1 = some (.ifCond .lt 14)) (by decide +kernel) rfl rfl rfl,
  fun _ _ _ => p_r (by decide +kernel : p_at 54 4 = some (.iload_n 1)) rfl,
  fun _ _ _ _ => p_r (by decide +kernel : p_at 54 5 = some (.aload_n 0)) rfl,
  fun _ _ _ _ => p_rgf (f := some 1) (by decide +kernel : p_at 54 6 = some (.getfield 10)) (by decide +kernel : p_fld (p_own 54) 10 = some (4, 0)) (rfl : p_ob 0 = some (.inr (4, [some 1, some 2, some 4, some 3, some 5, some 6, some 7, some 19]))) rfl,
  fun _ _ _ _ => p_rcv (nl := 3) (by decide +kernel : p_at 54 9 = some (.invokevirtual 125)) (by decide +kernel : p_inv (p_own 54) 125 = some (1, 42, 1)) (by decide +kernel) (rfl : p_ob 1 = some (.inr (3, [some 18, none]))) rfl rfl (Nat.le_of_ble_eq_true rfl) (Nat.le_of_ble_eq_true rfl) (Nat.le_of_ble_eq_true rfl) rfl,
  fun _ _ _ _ _ => p_rb2 (c := fun x y => decide (x < y)) (off := 13) (by decide +kernel : p_at 54 12 = some (.if_icmp .lt 13)) (by decide +kernel) rfl rfl rfl,
  fun _ _ _ => p_rnew (by decide +kernel : p_at 54 15 = some (.new 128)) (by decide +kernel) (by decide +kernel : p_at 54 19 = some (.ldc 130)) (by decide +kernel : p_at 54 21 = some (.invokespecial 132)) (by decide +kernel) (by decide +kernel) (by decide +kernel),
  fun _ _ _ => p_r (by decide +kernel : p_at 54 25 = some (.iconst 0)) rfl,
  fun _ _ _ _ => p_r (by decide +kernel : p_at 54 26 = some (.istore_n 2)) rfl,
  fun _ _ _ _ => p_r (by decide +kernel : p_at 54 27 = some (.iconst 0)) rfl,
  fun _ _ _ _ _ => p_r (by decide +kernel : p_at 54 28 = some (.istore_n 3)) rfl,
  fun _ _ _ _ _ _ => p_r (by decide +kernel : p_at 54 30 = some (.iload_n 1)) rfl,
  fun _ _ _ _ _ _ _ => p_rb2 (c := fun x y => decide (y ≤ x)) (off := 27) (by decide +kernel : p_at 54 31 = some (.if_icmp .ge 27)) (by decide +kernel) rfl rfl rfl,
  fun _ _ _ _ _ => p_r (by decide +kernel : p_at 54 34 = some (.iload_n 2)) rfl,
  fun _ _ _ _ _ _ => p_r (by decide +kernel : p_at 54 35 = some (.aload_n 0)) rfl,
  fun _ _ _ _ _ _ => p_rgf (f := some 1) (by decide +kernel : p_at 54 36 = some (.getfield 10)) (by decide +kernel : p_fld (p_own 54) 10 = some (4, 0)) (rfl : p_ob 0 = some (.inr (4, [some 1, some 2, some 4, some 3, some 5, some 6, some 7, some 19]))) rfl,
  fun _ _ _ _ _ _ => p_r (by decide +kernel : p_at 54 39 = some (.aload_n 0)) rfl,
  fun _ _ _ _ _ _ => p_rgf (f := some 1) (by decide +kernel : p_at 54 40 = some (.getfield 10)) (by decide +kernel : p_fld (p_own 54) 10 = some (4, 0)) (rfl : p_ob 0 = some (.inr (4, [some 1, some 2, some 4, some 3, some 5, some 6, some 7, some 19]))) rfl,
  fun _ _ _ _ _ _ => p_r (by decide +kernel : p_at 54 43 = some (.iload_n 2)) rfl,
  fun _ _ _ _ _ _ _ => p_rcv (nl := 5) (by decide +kernel : p_at 54 44 = some (.invokevirtual 133)) (by decide +kernel : p_inv (p_own 54) 133 = some (1, 41, 2)) (by decide +kernel) (rfl : p_ob 1 = some (.inr (3, [some 18, none]))) rfl rfl (Nat.le_of_ble_eq_true rfl) (Nat.le_of_ble_eq_true rfl) (Nat.le_of_ble_eq_true rfl) rfl,
  fun _ _ _ _ _ _ _ => p_rcv (nl := 2) (by decide +kernel : p_at 54 47 = some (.invokevirtual 110)) (by decide +kernel : p_inv (p_own 54) 110 = some (1, 39, 2)) (by decide +kernel) (rfl : p_ob 1 = some (.inr (3, [some 18, none]))) rfl rfl (Nat.le_of_ble_eq_true rfl) (Nat.le_of_ble_eq_true rfl) (Nat.le_of_ble_eq_true rfl) rfl,
  fun _ _ _ _ _ _ _ => p_r (by decide +kernel : p_at 54 50 = some (.iadd)) rfl,
  fun _ _ _ _ _ _ => p_r (by decide +kernel : p_at 54 51 = some (.istore_n 2)) rfl,
  fun _ _ _ _ _ => p_r (by decide +kernel : p_at 54 52 = some (.iinc 3 1)) rfl,
  fun _ _ _ _ _ => p_rgo (by decide +kernel : p_at 54 55 = some (.goto (-26))) (by decide +kernel),
  fun _ _ _ _ _ => p_r (by decide +kernel : p_at 54 58 = some (.aload_n 0)) rfl,
  fun _ _ _ _ _ => p_rgf (f := some 1) (by decide +kernel : p_at 54 59 = some (.getfield 10)) (by decide +kernel : p_fld (p_own 54) 10 = some (4, 0)) (rfl : p_ob 0 = some (.inr (4, [some 1, some 2, some 4, some 3, some 5, some 6, some 7, some 19]))) rfl,
  fun _ _ _ _ _ => p_r (by decide +kernel : p_at 54 62 = some (.iload_n 2)) rfl,
  fun _ _ _ _ _ _ => p_rcv (nl := 5) (by decide +kernel : p_at 54 63 = some (.invokevirtual 133)) (by decide +kernel : p_inv (p_own 54) 133 = some (1, 41, 2)) (by decide +kernel) (rfl : p_ob 1 = some (.inr (3, [some 18, none]))) rfl rfl (Nat.le_of_ble_eq_true rfl) (Nat.le_of_ble_eq_true rfl) (Nat.le_of_ble_eq_true rfl) rfl,
  fun _ _ _ _ _ _ => p_riret (by decide +kernel : p_at 54 66 = some (.ireturn)) (by decide +kernel)⟩
theorem H54_29 :
  (∀ (scr : pX) (w : pW) (x1 : Int32) (x2 : Int32) (x3 : Int32), p_ev scr 54 29 [.ref 0, .int x1, .int x2, .int x3] [] w = p_ev scr 54 30 [.ref 0, .int x1, .int x2, .int x3] [.int x3] w) :=
  fun _ _ _ _ _ => p_r (by decide +kernel : p_at 54 29 = some (.iload_n 3)) rfl
-- 55: costOf
theorem M55 :
  (∀ (scr : pX) (w : pW) (x1 : Int32), p_ev scr 55 0 [.ref 0, .int x1] [] w = p_ev scr 55 1 [.ref 0, .int x1] [.ref 0] w) ∧
  (∀ (scr : pX) (w : pW) (x1 : Int32), p_ev scr 55 1 [.ref 0, .int x1] [.ref 0] w = p_ev scr 55 2 [.ref 0, .int x1] [.int x1, .ref 0] w) ∧
  (∀ (scr : pX) (w : pW) (x1 : Int32) (s0 : Int32), p_ev scr 55 2 [.ref 0, .int x1] [.int s0, .ref 0] w = p_bnd scr 55 2 5 [.ref 0, .int x1] [] (p_ev none 71 0 [.ref 0, .int s0] [] w)) ∧
  (∀ (scr : pX) (w : pW) (x1 : Int32), p_ev scr 55 5 [.ref 0, .int x1] [] w = p_ev scr 55 6 [.ref 0, .int x1] [.ref 0] w) ∧
  (∀ (scr : pX) (w : pW) (x1 : Int32), p_ev scr 55 6 [.ref 0, .int x1] [.ref 0] w = p_ev scr 55 7 [.ref 0, .int x1] [.int x1, .ref 0] w) ∧
  (∀ (scr : pX) (w : pW) (x1 : Int32) (s0 : Int32), p_ev scr 55 7 [.ref 0, .int x1] [.int s0, .ref 0] w = p_bnd scr 55 7 10 [.ref 0, .int x1] [] (p_ev none 85 0 [.ref 0, .int s0, p_U, p_U, p_U] [] w)) ∧
  (∀ (scr : pX) (w : pW) (x1 : Int32) (s0 : Int32), p_ev scr 55 10 [.ref 0, .int x1] [.int s0] w = some (.inl (some (.int s0)), w, 0)) :=
  ⟨fun _ _ _ => p_r (by decide +kernel : p_at 55 0 = some (.aload_n 0)) rfl,
  fun _ _ _ => p_r (by decide +kernel : p_at 55 1 = some (.iload_n 1)) rfl,
  fun _ _ _ _ => p_rcv (nl := 2) (by decide +kernel : p_at 55 2 = some (.invokevirtual 95)) (by decide +kernel : p_inv (p_own 55) 95 = some (1, 71, 2)) (by decide +kernel) (rfl : p_ob 0 = some (.inr (4, [some 1, some 2, some 4, some 3, some 5, some 6, some 7, some 19]))) rfl rfl (Nat.le_of_ble_eq_true rfl) (Nat.le_of_ble_eq_true rfl) (Nat.le_of_ble_eq_true rfl) rfl,
  fun _ _ _ => p_r (by decide +kernel : p_at 55 5 = some (.aload_n 0)) rfl,
  fun _ _ _ => p_r (by decide +kernel : p_at 55 6 = some (.iload_n 1)) rfl,
  fun _ _ _ _ => p_rcv (nl := 5) (by decide +kernel : p_at 55 7 = some (.invokevirtual 136)) (by decide +kernel : p_inv (p_own 55) 136 = some (1, 85, 2)) (by decide +kernel) (rfl : p_ob 0 = some (.inr (4, [some 1, some 2, some 4, some 3, some 5, some 6, some 7, some 19]))) rfl rfl (Nat.le_of_ble_eq_true rfl) (Nat.le_of_ble_eq_true rfl) (Nat.le_of_ble_eq_true rfl) rfl,
  fun _ _ _ _ => p_riret (by decide +kernel : p_at 55 10 = some (.ireturn)) (by decide +kernel)⟩
-- 56: chooseBasis
theorem M56 :
  (∀ (scr : pX) (w : pW) (x1 : Int32), p_ev scr 56 0 [.ref 0, .int x1] [] w = p_ev scr 56 1 [.ref 0, .int x1] [.int x1] w) ∧
  (∀ (scr : pX) (w : pW) (x1 : Int32) (s0 : Int32), p_ev scr 56 1 [.ref 0, .int x1] [.int s0] w = p_ev scr 56 2 [.ref 0, .int x1] [.int (nI 1), .int s0] w) ∧
  (∀ (scr : pX) (w : pW) (x1 : Int32) (s0 : Int32) (s1 : Int32), p_ev scr 56 2 [.ref 0, .int x1] [.int s0, .int s1] w = if s1 < s0 then p_ev scr 56 10 [.ref 0, .int x1] [] w else p_ev scr 56 5 [.ref 0, .int x1] [] w) ∧
  (∀ (scr : pX) (w : pW) (x1 : Int32), p_ev scr 56 5 [.ref 0, .int x1] [] w = p_ev scr 56 6 [.ref 0, .int x1] [.int x1] w) ∧
  (∀ (scr : pX) (w : pW) (x1 : Int32) (s0 : Int32), p_ev scr 56 6 [.ref 0, .int x1] [.int s0] w = p_ev scr 56 7 [.ref 0, .int x1] [.int (nI 3), .int s0] w) ∧
  (∀ (scr : pX) (w : pW) (x1 : Int32) (s0 : Int32) (s1 : Int32), p_ev scr 56 7 [.ref 0, .int x1] [.int s0, .int s1] w = if s1 ≤ s0 then p_ev scr 56 20 [.ref 0, .int x1] [] w else p_ev scr 56 10 [.ref 0, .int x1] [] w) ∧
  (∀ (scr : pX) (w : pW) (x1 : Int32), p_ev scr 56 10 [.ref 0, .int x1] [] w = some (.inr (.inl 0), w, 1)) ∧
  (∀ (scr : pX) (w : pW) (x1 : Int32), p_ev scr 56 20 [.ref 0, .int x1] [] w = p_ev scr 56 21 [.ref 0, .int x1] [.ref 0] w) ∧
  (∀ (scr : pX) (w : pW) (x1 : Int32), p_ev scr 56 21 [.ref 0, .int x1] [.ref 0] w = p_ev scr 56 22 [.ref 0, .int x1] [.int (nI 1), .ref 0] w) ∧
  (∀ (scr : pX) (w : pW) (x1 : Int32) (s0 : Int32), p_ev scr 56 22 [.ref 0, .int x1] [.int s0, .ref 0] w = p_bnd scr 56 22 25 [.ref 0, .int x1] [] (p_ev none 81 0 [.ref 0, .int s0, p_U] [] w)) ∧
  (∀ (scr : pX) (w : pW) (x1 : Int32) (s0 : Int32), p_ev scr 56 25 [.ref 0, .int x1] [.int s0] w = p_ev scr 56 26 [.ref 0, .int x1] [] w) ∧
  (∀ (scr : pX) (w : pW) (x1 : Int32), p_ev scr 56 26 [.ref 0, .int x1] [] w = p_ev scr 56 27 [.ref 0, .int x1] [.ref 0] w) ∧
  (∀ (scr : pX) (w : pW) (x1 : Int32), p_ev scr 56 27 [.ref 0, .int x1] [.ref 0] w = p_ev scr 56 28 [.ref 0, .int x1] [.int (nI 1), .ref 0] w) ∧
  (∀ (scr : pX) (w : pW) (x1 : Int32) (s0 : Int32), p_ev scr 56 28 [.ref 0, .int x1] [.int s0, .ref 0] w = p_ev scr 56 29 [.ref 0, .int x1] [.int x1, .int s0, .ref 0] w) ∧
  (∀ (scr : pX) (w : pW) (x1 : Int32) (s0 : Int32) (s1 : Int32), p_ev scr 56 29 [.ref 0, .int x1] [.int s0, .int s1, .ref 0] w = p_ev scr 56 30 [.ref 0, .int x1] [.int (s1 <<< (s0 &&& 31)), .ref 0] w) ∧
  (∀ (scr : pX) (w : pW) (x1 : Int32) (s0 : Int32), p_ev scr 56 30 [.ref 0, .int x1] [.int s0, .ref 0] w = p_bnd scr 56 30 33 [.ref 0, .int x1] [] (p_ev none 83 0 [.ref 0, .int s0, p_U] [] w)) ∧
  (∀ (scr : pX) (w : pW) (x1 : Int32), p_ev scr 56 33 [.ref 0, .int x1] [] w = p_ev scr 56 34 [.ref 0, .int x1] [.ref 0] w) ∧
  (∀ (scr : pX) (w : pW) (x1 : Int32), p_ev scr 56 34 [.ref 0, .int x1] [.ref 0] w = p_bnd scr 56 34 37 [.ref 0, .int x1] [] (p_ev none 84 0 [.ref 0, p_U] [] w)) ∧
  (∀ (scr : pX) (w : pW) (x1 : Int32), p_ev scr 56 37 [.ref 0, .int x1] [] w = p_ev scr 56 38 [.ref 0, .int x1] [.ref 0] w) ∧
  (∀ (scr : pX) (w : pW) (x1 : Int32), p_ev scr 56 38 [.ref 0, .int x1] [.ref 0] w = p_ev scr 56 39 [.ref 0, .int x1] [.int (nI 1), .ref 0] w) ∧
  (∀ (scr : pX) (w : pW) (x1 : Int32) (s0 : Int32), p_ev scr 56 39 [.ref 0, .int x1] [.int s0, .ref 0] w = p_bnd scr 56 39 42 [.ref 0, .int x1] [] (p_ev none 85 0 [.ref 0, .int s0, p_U, p_U, p_U] [] w)) ∧
  (∀ (scr : pX) (w : pW) (x1 : Int32) (s0 : Int32), p_ev scr 56 42 [.ref 0, .int x1] [.int s0] w = some (.inl (some (.int s0)), w, 0)) :=
  ⟨fun _ _ _ => p_r (by decide +kernel : p_at 56 0 = some (.iload_n 1)) rfl,
  fun _ _ _ _ => p_r (by decide +kernel : p_at 56 1 = some (.iconst 1)) rfl,
  fun _ _ _ _ _ => p_rb2 (c := fun x y => decide (x < y)) (off := 8) (by decide +kernel : p_at 56 2 = some (.if_icmp .lt 8)) (by decide +kernel) rfl rfl rfl,
  fun _ _ _ => p_r (by decide +kernel : p_at 56 5 = some (.iload_n 1)) rfl,
  fun _ _ _ _ => p_r (by decide +kernel : p_at 56 6 = some (.iconst 3)) rfl,
  fun _ _ _ _ _ => p_rb2 (c := fun x y => decide (x ≤ y)) (off := 13) (by decide +kernel : p_at 56 7 = some (.if_icmp .le 13)) (by decide +kernel) rfl rfl rfl,
  fun _ _ _ => p_rnew (by decide +kernel : p_at 56 10 = some (.new 50)) (by decide +kernel) (by decide +kernel : p_at 56 14 = some (.ldc 139)) (by decide +kernel : p_at 56 16 = some (.invokespecial 54)) (by decide +kernel) (by decide +kernel) (by decide +kernel),
  fun _ _ _ => p_r (by decide +kernel : p_at 56 20 = some (.aload_n 0)) rfl,
  fun _ _ _ => p_r (by decide +kernel : p_at 56 21 = some (.iconst 1)) rfl,
  fun _ _ _ _ => p_rcv (nl := 3) (by decide +kernel : p_at 56 22 = some (.invokevirtual 119)) (by decide +kernel : p_inv (p_own 56) 119 = some (1, 81, 2)) (by decide +kernel) (rfl : p_ob 0 = some (.inr (4, [some 1, some 2, some 4, some 3, some 5, some 6, some 7, some 19]))) rfl rfl (Nat.le_of_ble_eq_true rfl) (Nat.le_of_ble_eq_true rfl) (Nat.le_of_ble_eq_true rfl) rfl,
  fun _ _ _ _ => p_r (by decide +kernel : p_at 56 25 = some (.pop)) rfl,
  fun _ _ _ => p_r (by decide +kernel : p_at 56 26 = some (.aload_n 0)) rfl,
  fun _ _ _ => p_r (by decide +kernel : p_at 56 27 = some (.iconst 1)) rfl,
  fun _ _ _ _ => p_r (by decide +kernel : p_at 56 28 = some (.iload_n 1)) rfl,
  fun _ _ _ _ _ => p_r (by decide +kernel : p_at 56 29 = some (.ishl)) rfl,
  fun _ _ _ _ => p_rcv (nl := 3) (by decide +kernel : p_at 56 30 = some (.invokevirtual 141)) (by decide +kernel : p_inv (p_own 56) 141 = some (1, 83, 2)) (by decide +kernel) (rfl : p_ob 0 = some (.inr (4, [some 1, some 2, some 4, some 3, some 5, some 6, some 7, some 19]))) rfl rfl (Nat.le_of_ble_eq_true rfl) (Nat.le_of_ble_eq_true rfl) (Nat.le_of_ble_eq_true rfl) rfl,
  fun _ _ _ => p_r (by decide +kernel : p_at 56 33 = some (.aload_n 0)) rfl,
  fun _ _ _ => p_rcv (nl := 2) (by decide +kernel : p_at 56 34 = some (.invokevirtual 144)) (by decide +kernel : p_inv (p_own 56) 144 = some (1, 84, 1)) (by decide +kernel) (rfl : p_ob 0 = some (.inr (4, [some 1, some 2, some 4, some 3, some 5, some 6, some 7, some 19]))) rfl rfl (Nat.le_of_ble_eq_true rfl) (Nat.le_of_ble_eq_true rfl) (Nat.le_of_ble_eq_true rfl) rfl,
  fun _ _ _ => p_r (by decide +kernel : p_at 56 37 = some (.aload_n 0)) rfl,
  fun _ _ _ => p_r (by decide +kernel : p_at 56 38 = some (.iconst 1)) rfl,
  fun _ _ _ _ => p_rcv (nl := 5) (by decide +kernel : p_at 56 39 = some (.invokevirtual 136)) (by decide +kernel : p_inv (p_own 56) 136 = some (1, 85, 2)) (by decide +kernel) (rfl : p_ob 0 = some (.inr (4, [some 1, some 2, some 4, some 3, some 5, some 6, some 7, some 19]))) rfl rfl (Nat.le_of_ble_eq_true rfl) (Nat.le_of_ble_eq_true rfl) (Nat.le_of_ble_eq_true rfl) rfl,
  fun _ _ _ _ => p_riret (by decide +kernel : p_at 56 42 = some (.ireturn)) (by decide +kernel)⟩
-- 57: sizeOf
theorem M57 :
  (∀ (scr : pX) (w : pW) (x1 : Int32), p_ev scr 57 0 [.ref 0, .int x1] [] w = p_ev scr 57 1 [.ref 0, .int x1] [.ref 0] w) ∧
  (∀ (scr : pX) (w : pW) (x1 : Int32), p_ev scr 57 1 [.ref 0, .int x1] [.ref 0] w = p_ev scr 57 2 [.ref 0, .int x1] [.int x1, .ref 0] w) ∧
  (∀ (scr : pX) (w : pW) (x1 : Int32) (s0 : Int32), p_ev scr 57 2 [.ref 0, .int x1] [.int s0, .ref 0] w = p_bnd scr 57 2 5 [.ref 0, .int x1] [] (p_ev none 71 0 [.ref 0, .int s0] [] w)) ∧
  (∀ (scr : pX) (w : pW) (x1 : Int32), p_ev scr 57 5 [.ref 0, .int x1] [] w = p_ev scr 57 6 [.ref 0, .int x1] [.ref 0] w) ∧
  (∀ (scr : pX) (w : pW) (x1 : Int32), p_ev scr 57 6 [.ref 0, .int x1] [.ref 0] w = p_ev scr 57 7 [.ref 0, .int x1] [.int x1, .ref 0] w) ∧
  (∀ (scr : pX) (w : pW) (x1 : Int32) (s0 : Int32), p_ev scr 57 7 [.ref 0, .int x1] [.int s0, .ref 0] w = p_bnd scr 57 7 10 [.ref 0, .int x1] [] (p_ev none 72 0 [.ref 0, .int s0] [] w)) ∧
  (∀ (scr : pX) (w : pW) (x1 : Int32), p_ev scr 57 10 [.ref 0, .int x1] [] w = p_ev scr 57 11 [.ref 0, .int x1] [.ref 0] w) ∧
  (∀ (scr : pX) (w : pW) (x1 : Int32), p_ev scr 57 11 [.ref 0, .int x1] [.ref 0] w = p_ev scr 57 14 [.ref 0, .int x1] [.ref 1] w) ∧
  (∀ (scr : pX) (w : pW) (x1 : Int32), p_ev scr 57 14 [.ref 0, .int x1] [.ref 1] w = p_ev scr 57 15 [.ref 0, .int x1] [.int x1, .ref 1] w) ∧
  (∀ (scr : pX) (w : pW) (x1 : Int32) (s0 : Int32), p_ev scr 57 15 [.ref 0, .int x1] [.int s0, .ref 1] w = p_bnd scr 57 15 18 [.ref 0, .int x1] [] (p_ev none 39 0 [.ref 1, .int s0] [] w)) ∧
  (∀ (scr : pX) (w : pW) (x1 : Int32) (s0 : Int32), p_ev scr 57 18 [.ref 0, .int x1] [.int s0] w = some (.inl (some (.int s0)), w, 0)) :=
  ⟨fun _ _ _ => p_r (by decide +kernel : p_at 57 0 = some (.aload_n 0)) rfl,
  fun _ _ _ => p_r (by decide +kernel : p_at 57 1 = some (.iload_n 1)) rfl,
  fun _ _ _ _ => p_rcv (nl := 2) (by decide +kernel : p_at 57 2 = some (.invokevirtual 95)) (by decide +kernel : p_inv (p_own 57) 95 = some (1, 71, 2)) (by decide +kernel) (rfl : p_ob 0 = some (.inr (4, [some 1, some 2, some 4, some 3, some 5, some 6, some 7, some 19]))) rfl rfl (Nat.le_of_ble_eq_true rfl) (Nat.le_of_ble_eq_true rfl) (Nat.le_of_ble_eq_true rfl) rfl,
  fun _ _ _ => p_r (by decide +kernel : p_at 57 5 = some (.aload_n 0)) rfl,
  fun _ _ _ => p_r (by decide +kernel : p_at 57 6 = some (.iload_n 1)) rfl,
  fun _ _ _ _ => p_rcv (nl := 2) (by decide +kernel : p_at 57 7 = some (.invokevirtual 147)) (by decide +kernel : p_inv (p_own 57) 147 = some (1, 72, 2)) (by decide +kernel) (rfl : p_ob 0 = some (.inr (4, [some 1, some 2, some 4, some 3, some 5, some 6, some 7, some 19]))) rfl rfl (Nat.le_of_ble_eq_true rfl) (Nat.le_of_ble_eq_true rfl) (Nat.le_of_ble_eq_true rfl) rfl,
  fun _ _ _ => p_r (by decide +kernel : p_at 57 10 = some (.aload_n 0)) rfl,
  fun _ _ _ => p_rgf (f := some 1) (by decide +kernel : p_at 57 11 = some (.getfield 10)) (by decide +kernel : p_fld (p_own 57) 10 = some (4, 0)) (rfl : p_ob 0 = some (.inr (4, [some 1, some 2, some 4, some 3, some 5, some 6, some 7, some 19]))) rfl,
  fun _ _ _ => p_r (by decide +kernel : p_at 57 14 = some (.iload_n 1)) rfl,
  fun _ _ _ _ => p_rcv (nl := 2) (by decide +kernel : p_at 57 15 = some (.invokevirtual 110)) (by decide +kernel : p_inv (p_own 57) 110 = some (1, 39, 2)) (by decide +kernel) (rfl : p_ob 1 = some (.inr (3, [some 18, none]))) rfl rfl (Nat.le_of_ble_eq_true rfl) (Nat.le_of_ble_eq_true rfl) (Nat.le_of_ble_eq_true rfl) rfl,
  fun _ _ _ _ => p_riret (by decide +kernel : p_at 57 18 = some (.ireturn)) (by decide +kernel)⟩
-- 58: number
theorem M58 :
  (∀ (scr : pX) (w : pW) (x1 : Int32) (x2 : Int32), p_ev scr 58 0 [.ref 0, .int x1, .int x2] [] w = p_ev scr 58 1 [.ref 0, .int x1, .int x2] [.ref 0] w) ∧
  (∀ (scr : pX) (w : pW) (x1 : Int32) (x2 : Int32), p_ev scr 58 1 [.ref 0, .int x1, .int x2] [.ref 0] w = p_ev scr 58 2 [.ref 0, .int x1, .int x2] [.int x1, .ref 0] w) ∧
  (∀ (scr : pX) (w : pW) (x1 : Int32) (x2 : Int32) (s0 : Int32), p_ev scr 58 2 [.ref 0, .int x1, .int x2] [.int s0, .ref 0] w = p_bnd scr 58 2 5 [.ref 0, .int x1, .int x2] [] (p_ev none 71 0 [.ref 0, .int s0] [] w)) ∧
  (∀ (scr : pX) (w : pW) (x1 : Int32) (x2 : Int32), p_ev scr 58 5 [.ref 0, .int x1, .int x2] [] w = p_ev scr 58 6 [.ref 0, .int x1, .int x2] [.ref 0] w) ∧
  (∀ (scr : pX) (w : pW) (x1 : Int32) (x2 : Int32), p_ev scr 58 6 [.ref 0, .int x1, .int x2] [.ref 0] w = p_ev scr 58 7 [.ref 0, .int x1, .int x2] [.int x1, .ref 0] w) ∧
  (∀ (scr : pX) (w : pW) (x1 : Int32) (x2 : Int32) (s0 : Int32), p_ev scr 58 7 [.ref 0, .int x1, .int x2] [.int s0, .ref 0] w = p_bnd scr 58 7 10 [.ref 0, .int x1, .int x2] [] (p_ev none 72 0 [.ref 0, .int s0] [] w)) ∧
  (∀ (scr : pX) (w : pW) (x1 : Int32) (x2 : Int32), p_ev scr 58 10 [.ref 0, .int x1, .int x2] [] w = p_ev scr 58 11 [.ref 0, .int x1, .int x2] [.ref 0] w) ∧
  (∀ (scr : pX) (w : pW) (x1 : Int32) (x2 : Int32), p_ev scr 58 11 [.ref 0, .int x1, .int x2] [.ref 0] w = p_ev scr 58 12 [.ref 0, .int x1, .int x2] [.int x2, .ref 0] w) ∧
  (∀ (scr : pX) (w : pW) (x1 : Int32) (x2 : Int32) (s0 : Int32), p_ev scr 58 12 [.ref 0, .int x1, .int x2] [.int s0, .ref 0] w = p_ev scr 58 13 [.ref 0, .int x1, .int x2] [.ref 0, .int s0, .ref 0] w) ∧
  (∀ (scr : pX) (w : pW) (x1 : Int32) (x2 : Int32) (s1 : Int32), p_ev scr 58 13 [.ref 0, .int x1, .int x2] [.ref 0, .int s1, .ref 0] w = p_ev scr 58 16 [.ref 0, .int x1, .int x2] [.ref 1, .int s1, .ref 0] w) ∧
  (∀ (scr : pX) (w : pW) (x1 : Int32) (x2 : Int32) (s1 : Int32), p_ev scr 58 16 [.ref 0, .int x1, .int x2] [.ref 1, .int s1, .ref 0] w = p_ev scr 58 17 [.ref 0, .int x1, .int x2] [.int x1, .ref 1, .int s1, .ref 0] w) ∧
  (∀ (scr : pX) (w : pW) (x1 : Int32) (x2 : Int32) (s0 : Int32) (s2 : Int32), p_ev scr 58 17 [.ref 0, .int x1, .int x2] [.int s0, .ref 1, .int s2, .ref 0] w = p_bnd scr 58 17 20 [.ref 0, .int x1, .int x2] [.int s2, .ref 0] (p_ev none 39 0 [.ref 1, .int s0] [] w)) ∧
  (∀ (scr : pX) (w : pW) (x1 : Int32) (x2 : Int32) (s0 : Int32) (s1 : Int32), p_ev scr 58 20 [.ref 0, .int x1, .int x2] [.int s0, .int s1, .ref 0] w = p_bnd scr 58 20 23 [.ref 0, .int x1, .int x2] [] (p_ev none 76 0 [.ref 0, .int s1, .int s0] [] w)) ∧
  (∀ (scr : pX) (w : pW) (x1 : Int32) (x2 : Int32), p_ev scr 58 23 [.ref 0, .int x1, .int x2] [] w = p_ev scr 58 24 [.ref 0, .int x1, .int x2] [.ref 0] w) ∧
  (∀ (scr : pX) (w : pW) (x1 : Int32) (x2 : Int32), p_ev scr 58 24 [.ref 0, .int x1, .int x2] [.ref 0] w = p_ev scr 58 27 [.ref 0, .int x1, .int x2] [.ref 4] w) ∧
  (∀ (scr : pX) (w : pW) (x1 : Int32) (x2 : Int32), p_ev scr 58 27 [.ref 0, .int x1, .int x2] [.ref 4] w = p_ev scr 58 28 [.ref 0, .int x1, .int x2] [.ref 0, .ref 4] w) ∧
  (∀ (scr : pX) (w : pW) (x1 : Int32) (x2 : Int32), p_ev scr 58 28 [.ref 0, .int x1, .int x2] [.ref 0, .ref 4] w = p_ev scr 58 31 [.ref 0, .int x1, .int x2] [.ref 1, .ref 4] w) ∧
  (∀ (scr : pX) (w : pW) (x1 : Int32) (x2 : Int32), p_ev scr 58 31 [.ref 0, .int x1, .int x2] [.ref 1, .ref 4] w = p_ev scr 58 32 [.ref 0, .int x1, .int x2] [.int x1, .ref 1, .ref 4] w) ∧
  (∀ (scr : pX) (w : pW) (x1 : Int32) (x2 : Int32) (s0 : Int32), p_ev scr 58 32 [.ref 0, .int x1, .int x2] [.int s0, .ref 1, .ref 4] w = p_bnd scr 58 32 35 [.ref 0, .int x1, .int x2] [.ref 4] (p_ev none 40 0 [.ref 1, .int s0] [] w)) ∧
  (∀ (scr : pX) (w : pW) (x1 : Int32) (x2 : Int32) (s0 : Int32), p_ev scr 58 35 [.ref 0, .int x1, .int x2] [.int s0, .ref 4] w = p_ev scr 58 36 [.ref 0, .int x1, .int x2] [.int x2, .int s0, .ref 4] w) ∧
  (∀ (scr : pX) (w : pW) (x1 : Int32) (x2 : Int32) (s0 : Int32) (s1 : Int32), p_ev scr 58 36 [.ref 0, .int x1, .int x2] [.int s0, .int s1, .ref 4] w = p_ev scr 58 37 [.ref 0, .int x1, .int x2] [.int (s1 + s0), .ref 4] w) ∧
  (∀ (scr : pX) (w : pW) (x1 : Int32) (x2 : Int32) (s0 : Int32), p_ev scr 58 37 [.ref 0, .int x1, .int x2] [.int s0, .ref 4] w = p_bnd scr 58 37 40 [.ref 0, .int x1, .int x2] [] (p_ev none 24 0 [.ref 4, .int s0] [] w)) ∧
  (∀ (scr : pX) (w : pW) (x1 : Int32) (x2 : Int32) (t0 : Int64), p_ev scr 58 40 [.ref 0, .int x1, .int x2] [.long t0] w = some (.inl (some (.long t0)), w, 0)) :=
  ⟨fun _ _ _ _ => p_r (by decide +kernel : p_at 58 0 = some (.aload_n 0)) rfl,
  fun _ _ _ _ => p_r (by decide +kernel : p_at 58 1 = some (.iload_n 1)) rfl,
  fun _ _ _ _ _ => p_rcv (nl := 2) (by decide +kernel : p_at 58 2 = some (.invokevirtual 95)) (by decide +kernel : p_inv (p_own 58) 95 = some (1, 71, 2)) (by decide +kernel) (rfl : p_ob 0 = some (.inr (4, [some 1, some 2, some 4, some 3, some 5, some 6, some 7, some 19]))) rfl rfl (Nat.le_of_ble_eq_true rfl) (Nat.le_of_ble_eq_true rfl) (Nat.le_of_ble_eq_true rfl) rfl,
  fun _ _ _ _ => p_r (by decide +kernel : p_at 58 5 = some (.aload_n 0)) rfl,
  fun _ _ _ _ => p_r (by decide +kernel : p_at 58 6 = some (.iload_n 1)) rfl,
  fun _ _ _ _ _ => p_rcv (nl := 2) (by decide +kernel : p_at 58 7 = some (.invokevirtual 147)) (by decide +kernel : p_inv (p_own 58) 147 = some (1, 72, 2)) (by decide +kernel) (rfl : p_ob 0 = some (.inr (4, [some 1, some 2, some 4, some 3, some 5, some 6, some 7, some 19]))) rfl rfl (Nat.le_of_ble_eq_true rfl) (Nat.le_of_ble_eq_true rfl) (Nat.le_of_ble_eq_true rfl) rfl,
  fun _ _ _ _ => p_r (by decide +kernel : p_at 58 10 = some (.aload_n 0)) rfl,
  fun _ _ _ _ => p_r (by decide +kernel : p_at 58 11 = some (.iload_n 2)) rfl,
  fun _ _ _ _ _ => p_r (by decide +kernel : p_at 58 12 = some (.aload_n 0)) rfl,
  fun _ _ _ _ _ => p_rgf (f := some 1) (by decide +kernel : p_at 58 13 = some (.getfield 10)) (by decide +kernel : p_fld (p_own 58) 10 = some (4, 0)) (rfl : p_ob 0 = some (.inr (4, [some 1, some 2, some 4, some 3, some 5, some 6, some 7, some 19]))) rfl,
  fun _ _ _ _ _ => p_r (by decide +kernel : p_at 58 16 = some (.iload_n 1)) rfl,
  fun _ _ _ _ _ _ => p_rcv (nl := 2) (by decide +kernel : p_at 58 17 = some (.invokevirtual 110)) (by decide +kernel : p_inv (p_own 58) 110 = some (1, 39, 2)) (by decide +kernel) (rfl : p_ob 1 = some (.inr (3, [some 18, none]))) rfl rfl (Nat.le_of_ble_eq_true rfl) (Nat.le_of_ble_eq_true rfl) (Nat.le_of_ble_eq_true rfl) rfl,
  fun _ _ _ _ _ _ => p_rcv (nl := 3) (by decide +kernel : p_at 58 20 = some (.invokevirtual 150)) (by decide +kernel : p_inv (p_own 58) 150 = some (1, 76, 3)) (by decide +kernel) (rfl : p_ob 0 = some (.inr (4, [some 1, some 2, some 4, some 3, some 5, some 6, some 7, some 19]))) rfl rfl (Nat.le_of_ble_eq_true rfl) (Nat.le_of_ble_eq_true rfl) (Nat.le_of_ble_eq_true rfl) rfl,
  fun _ _ _ _ => p_r (by decide +kernel : p_at 58 23 = some (.aload_n 0)) rfl,
  fun _ _ _ _ => p_rgf (f := some 4) (by decide +kernel : p_at 58 24 = some (.getfield 26)) (by decide +kernel : p_fld (p_own 58) 26 = some (4, 2)) (rfl : p_ob 0 = some (.inr (4, [some 1, some 2, some 4, some 3, some 5, some 6, some 7, some 19]))) rfl,
  fun _ _ _ _ => p_r (by decide +kernel : p_at 58 27 = some (.aload_n 0)) rfl,
  fun _ _ _ _ => p_rgf (f := some 1) (by decide +kernel : p_at 58 28 = some (.getfield 10)) (by decide +kernel : p_fld (p_own 58) 10 = some (4, 0)) (rfl : p_ob 0 = some (.inr (4, [some 1, some 2, some 4, some 3, some 5, some 6, some 7, some 19]))) rfl,
  fun _ _ _ _ => p_r (by decide +kernel : p_at 58 31 = some (.iload_n 1)) rfl,
  fun _ _ _ _ _ => p_rcv (nl := 2) (by decide +kernel : p_at 58 32 = some (.invokevirtual 154)) (by decide +kernel : p_inv (p_own 58) 154 = some (1, 40, 2)) (by decide +kernel) (rfl : p_ob 1 = some (.inr (3, [some 18, none]))) rfl rfl (Nat.le_of_ble_eq_true rfl) (Nat.le_of_ble_eq_true rfl) (Nat.le_of_ble_eq_true rfl) rfl,
  fun _ _ _ _ _ => p_r (by decide +kernel : p_at 58 35 = some (.iload_n 2)) rfl,
  fun _ _ _ _ _ _ => p_r (by decide +kernel : p_at 58 36 = some (.iadd)) rfl,
  fun _ _ _ _ _ => p_rcv (nl := 2) (by decide +kernel : p_at 58 37 = some (.invokevirtual 76)) (by decide +kernel : p_inv (p_own 58) 76 = some (1, 24, 2)) (by decide +kernel) (rfl : p_ob 4 = some (.inr (2, [some 11]))) rfl rfl (Nat.le_of_ble_eq_true rfl) (Nat.le_of_ble_eq_true rfl) (Nat.le_of_ble_eq_true rfl) rfl,
  fun _ _ _ _ _ => p_rlret (by decide +kernel : p_at 58 40 = some (.lreturn)) (by decide +kernel)⟩
-- 59: setNumber
theorem M59 :
  (∀ (scr : pX) (w : pW) (x1 : Int32) (x2 : Int32) (x3 : Int32), p_ev scr 59 0 [.ref 0, .int x1, .int x2, .int x3, p_U, p_U, p_U] [] w = p_ev scr 59 1 [.ref 0, .int x1, .int x2, .int x3, p_U, p_U, p_U] [.ref 0] w) ∧
  (∀ (scr : pX) (w : pW) (x1 : Int32) (x2 : Int32) (x3 : Int32), p_ev scr 59 1 [.ref 0, .int x1, .int x2, .int x3, p_U, p_U, p_U] [.ref 0] w = p_ev scr 59 2 [.ref 0, .int x1, .int x2, .int x3, p_U, p_U, p_U] [.int x1, .ref 0] w) ∧
  (∀ (scr : pX) (w : pW) (x1 : Int32) (x2 : Int32) (x3 : Int32) (s0 : Int32), p_ev scr 59 2 [.ref 0, .int x1, .int x2, .int x3, p_U, p_U, p_U] [.int s0, .ref 0] w = p_bnd scr 59 2 5 [.ref 0, .int x1, .int x2, .int x3, p_U, p_U, p_U] [] (p_ev none 71 0 [.ref 0, .int s0] [] w)) ∧
  (∀ (scr : pX) (w : pW) (x1 : Int32) (x2 : Int32) (x3 : Int32), p_ev scr 59 5 [.ref 0, .int x1, .int x2, .int x3, p_U, p_U, p_U] [] w = p_ev scr 59 6 [.ref 0, .int x1, .int x2, .int x3, p_U, p_U, p_U] [.ref 0] w) ∧
  (∀ (scr : pX) (w : pW) (x1 : Int32) (x2 : Int32) (x3 : Int32), p_ev scr 59 6 [.ref 0, .int x1, .int x2, .int x3, p_U, p_U, p_U] [.ref 0] w = p_ev scr 59 7 [.ref 0, .int x1, .int x2, .int x3, p_U, p_U, p_U] [.int x1, .ref 0] w) ∧
  (∀ (scr : pX) (w : pW) (x1 : Int32) (x2 : Int32) (x3 : Int32) (s0 : Int32), p_ev scr 59 7 [.ref 0, .int x1, .int x2, .int x3, p_U, p_U, p_U] [.int s0, .ref 0] w = p_bnd scr 59 7 10 [.ref 0, .int x1, .int x2, .int x3, p_U, p_U, p_U] [] (p_ev none 72 0 [.ref 0, .int s0] [] w)) ∧
  (∀ (scr : pX) (w : pW) (x1 : Int32) (x2 : Int32) (x3 : Int32), p_ev scr 59 10 [.ref 0, .int x1, .int x2, .int x3, p_U, p_U, p_U] [] w = p_ev scr 59 11 [.ref 0, .int x1, .int x2, .int x3, p_U, p_U, p_U] [.ref 0] w) ∧
  (∀ (scr : pX) (w : pW) (x1 : Int32) (x2 : Int32) (x3 : Int32), p_ev scr 59 11 [.ref 0, .int x1, .int x2, .int x3, p_U, p_U, p_U] [.ref 0] w = p_ev scr 59 12 [.ref 0, .int x1, .int x2, .int x3, p_U, p_U, p_U] [.int x2, .ref 0] w) ∧
  (∀ (scr : pX) (w : pW) (x1 : Int32) (x2 : Int32) (x3 : Int32) (s0 : Int32), p_ev scr 59 12 [.ref 0, .int x1, .int x2, .int x3, p_U, p_U, p_U] [.int s0, .ref 0] w = p_ev scr 59 13 [.ref 0, .int x1, .int x2, .int x3, p_U, p_U, p_U] [.ref 0, .int s0, .ref 0] w) ∧
  (∀ (scr : pX) (w : pW) (x1 : Int32) (x2 : Int32) (x3 : Int32) (s1 : Int32), p_ev scr 59 13 [.ref 0, .int x1, .int x2, .int x3, p_U, p_U, p_U] [.ref 0, .int s1, .ref 0] w = p_ev scr 59 16 [.ref 0, .int x1, .int x2, .int x3, p_U, p_U, p_U] [.ref 1, .int s1, .ref 0] w) ∧
  (∀ (scr : pX) (w : pW) (x1 : Int32) (x2 : Int32) (x3 : Int32) (s1 : Int32), p_ev scr 59 16 [.ref 0, .int x1, .int x2, .int x3, p_U, p_U, p_U] [.ref 1, .int s1, .ref 0] w = p_ev scr 59 17 [.ref 0, .int x1, .int x2, .int x3, p_U, p_U, p_U] [.int x1, .ref 1, .int s1, .ref 0] w) ∧
  (∀ (scr : pX) (w : pW) (x1 : Int32) (x2 : Int32) (x3 : Int32) (s0 : Int32) (s2 : Int32), p_ev scr 59 17 [.ref 0, .int x1, .int x2, .int x3, p_U, p_U, p_U] [.int s0, .ref 1, .int s2, .ref 0] w = p_bnd scr 59 17 20 [.ref 0, .int x1, .int x2, .int x3, p_U, p_U, p_U] [.int s2, .ref 0] (p_ev none 39 0 [.ref 1, .int s0] [] w)) ∧
  (∀ (scr : pX) (w : pW) (x1 : Int32) (x2 : Int32) (x3 : Int32) (s0 : Int32) (s1 : Int32), p_ev scr 59 20 [.ref 0, .int x1, .int x2, .int x3, p_U, p_U, p_U] [.int s0, .int s1, .ref 0] w = p_bnd scr 59 20 23 [.ref 0, .int x1, .int x2, .int x3, p_U, p_U, p_U] [] (p_ev none 76 0 [.ref 0, .int s1, .int s0] [] w)) ∧
  (∀ (scr : pX) (w : pW) (x1 : Int32) (x2 : Int32) (x3 : Int32), p_ev scr 59 23 [.ref 0, .int x1, .int x2, .int x3, p_U, p_U, p_U] [] w = p_ev scr 59 24 [.ref 0, .int x1, .int x2, .int x3, p_U, p_U, p_U] [.int x3] w) ∧
  (∀ (scr : pX) (w : pW) (x1 : Int32) (x2 : Int32) (x3 : Int32) (s0 : Int32), p_ev scr 59 24 [.ref 0, .int x1, .int x2, .int x3, p_U, p_U, p_U] [.int s0] w = p_ev scr 59 26 [.ref 0, .int x1, .int x2, .int x3, p_U, p_U, p_U] [.int (-100000 : Int32), .int s0] w) ∧
  (∀ (scr : pX) (w : pW) (x1 : Int32) (x2 : Int32) (x3 : Int32) (s0 : Int32) (s1 : Int32), p_ev scr 59 26 [.ref 0, .int x1, .int x2, .int x3, p_U, p_U, p_U] [.int s0, .int s1] w = if s1 < s0 then p_ev scr 59 35 [.ref 0, .int x1, .int x2, .int x3, p_U, p_U, p_U] [] w else p_ev scr 59 29 [.ref 0, .int x1, .int x2, .int x3, p_U, p_U, p_U] [] w) ∧
  (∀ (scr : pX) (w : pW) (x1 : Int32) (x2 : Int32) (x3 : Int32), p_ev scr 59 29 [.ref 0, .int x1, .int x2, .int x3, p_U, p_U, p_U] [] w = p_ev scr 59 30 [.ref 0, .int x1, .int x2, .int x3, p_U, p_U, p_U] [.int x3] w) ∧
  (∀ (scr : pX) (w : pW) (x1 : Int32) (x2 : Int32) (x3 : Int32) (s0 : Int32), p_ev scr 59 30 [.ref 0, .int x1, .int x2, .int x3, p_U, p_U, p_U] [.int s0] w = p_ev scr 59 32 [.ref 0, .int x1, .int x2, .int x3, p_U, p_U, p_U] [.int (nI 100000), .int s0] w) ∧
  (∀ (scr : pX) (w : pW) (x1 : Int32) (x2 : Int32) (x3 : Int32) (s0 : Int32) (s1 : Int32), p_ev scr 59 32 [.ref 0, .int x1, .int x2, .int x3, p_U, p_U, p_U] [.int s0, .int s1] w = if s1 ≤ s0 then p_ev scr 59 45 [.ref 0, .int x1, .int x2, .int x3, p_U, p_U, p_U] [] w else p_ev scr 59 35 [.ref 0, .int x1, .int x2, .int x3, p_U, p_U, p_U] [] w) ∧
  (∀ (scr : pX) (w : pW) (x1 : Int32) (x2 : Int32) (x3 : Int32), p_ev scr 59 35 [.ref 0, .int x1, .int x2, .int x3, p_U, p_U, p_U] [] w = some (.inr (.inl 0), w, 1)) ∧
  (∀ (scr : pX) (w : pW) (x1 : Int32) (x2 : Int32) (x3 : Int32), p_ev scr 59 45 [.ref 0, .int x1, .int x2, .int x3, p_U, p_U, p_U] [] w = p_ev scr 59 46 [.ref 0, .int x1, .int x2, .int x3, p_U, p_U, p_U] [.ref 0] w) ∧
  (∀ (scr : pX) (w : pW) (x1 : Int32) (x2 : Int32) (x3 : Int32), p_ev scr 59 46 [.ref 0, .int x1, .int x2, .int x3, p_U, p_U, p_U] [.ref 0] w = p_ev scr 59 49 [.ref 0, .int x1, .int x2, .int x3, p_U, p_U, p_U] [.ref 1] w) ∧
  (∀ (scr : pX) (w : pW) (x1 : Int32) (x2 : Int32) (x3 : Int32), p_ev scr 59 49 [.ref 0, .int x1, .int x2, .int x3, p_U, p_U, p_U] [.ref 1] w = p_ev scr 59 50 [.ref 0, .int x1, .int x2, .int x3, p_U, p_U, p_U] [.int x1, .ref 1] w) ∧
  (∀ (scr : pX) (w : pW) (x1 : Int32) (x2 : Int32) (x3 : Int32) (s0 : Int32), p_ev scr 59 50 [.ref 0, .int x1, .int x2, .int x3, p_U, p_U, p_U] [.int s0, .ref 1] w = p_bnd scr 59 50 53 [.ref 0, .int x1, .int x2, .int x3, p_U, p_U, p_U] [] (p_ev none 40 0 [.ref 1, .int s0] [] w)) ∧
  (∀ (scr : pX) (w : pW) (x1 : Int32) (x2 : Int32) (x3 : Int32) (s0 : Int32), p_ev scr 59 53 [.ref 0, .int x1, .int x2, .int x3, p_U, p_U, p_U] [.int s0] w = p_ev scr 59 54 [.ref 0, .int x1, .int x2, .int x3, p_U, p_U, p_U] [.int x2, .int s0] w) ∧
  (∀ (scr : pX) (w : pW) (x1 : Int32) (x2 : Int32) (x3 : Int32) (s0 : Int32) (s1 : Int32), p_ev scr 59 54 [.ref 0, .int x1, .int x2, .int x3, p_U, p_U, p_U] [.int s0, .int s1] w = p_ev scr 59 55 [.ref 0, .int x1, .int x2, .int x3, p_U, p_U, p_U] [.int (s1 + s0)] w) ∧
  (∀ (scr : pX) (w : pW) (x1 : Int32) (x2 : Int32) (x3 : Int32) (s0 : Int32), p_ev scr 59 55 [.ref 0, .int x1, .int x2, .int x3, p_U, p_U, p_U] [.int s0] w = p_ev scr 59 57 [.ref 0, .int x1, .int x2, .int x3, .int s0, p_U, p_U] [] w) ∧
  (∀ (scr : pX) (w : pW) (x1 : Int32) (x2 : Int32) (x3 : Int32) (x4 : Int32), p_ev scr 59 57 [.ref 0, .int x1, .int x2, .int x3, .int x4, p_U, p_U] [] w = p_ev scr 59 58 [.ref 0, .int x1, .int x2, .int x3, .int x4, p_U, p_U] [.ref 0] w) ∧
  (∀ (scr : pX) (w : pW) (x1 : Int32) (x2 : Int32) (x3 : Int32) (x4 : Int32), p_ev scr 59 58 [.ref 0, .int x1, .int x2, .int x3, .int x4, p_U, p_U] [.ref 0] w = p_ev scr 59 61 [.ref 0, .int x1, .int x2, .int x3, .int x4, p_U, p_U] [.ref 4] w) ∧
  (∀ (scr : pX) (w : pW) (x1 : Int32) (x2 : Int32) (x3 : Int32) (x4 : Int32), p_ev scr 59 61 [.ref 0, .int x1, .int x2, .int x3, .int x4, p_U, p_U] [.ref 4] w = p_ev scr 59 63 [.ref 0, .int x1, .int x2, .int x3, .int x4, p_U, p_U] [.int x4, .ref 4] w) ∧
  (∀ (scr : pX) (w : pW) (x1 : Int32) (x2 : Int32) (x3 : Int32) (x4 : Int32) (s0 : Int32), p_ev scr 59 63 [.ref 0, .int x1, .int x2, .int x3, .int x4, p_U, p_U] [.int s0, .ref 4] w = p_bnd scr 59 63 66 [.ref 0, .int x1, .int x2, .int x3, .int x4, p_U, p_U] [] (p_ev none 24 0 [.ref 4, .int s0] [] w)) ∧
  (∀ (scr : pX) (w : pW) (x1 : Int32) (x2 : Int32) (x3 : Int32) (x4 : Int32) (t0 : Int64), p_ev scr 59 66 [.ref 0, .int x1, .int x2, .int x3, .int x4, p_U, p_U] [.long t0] w = p_ev scr 59 68 [.ref 0, .int x1, .int x2, .int x3, .int x4, .long t0, p_U] [] w) ∧
  (∀ (scr : pX) (w : pW) (x1 : Int32) (x2 : Int32) (x3 : Int32) (x4 : Int32) (y5 : Int64), p_ev scr 59 68 [.ref 0, .int x1, .int x2, .int x3, .int x4, .long y5, p_U] [] w = p_ev scr 59 69 [.ref 0, .int x1, .int x2, .int x3, .int x4, .long y5, p_U] [.ref 0] w) ∧
  (∀ (scr : pX) (w : pW) (x1 : Int32) (x2 : Int32) (x3 : Int32) (x4 : Int32) (y5 : Int64), p_ev scr 59 69 [.ref 0, .int x1, .int x2, .int x3, .int x4, .long y5, p_U] [.ref 0] w = p_ev scr 59 72 [.ref 0, .int x1, .int x2, .int x3, .int x4, .long y5, p_U] [.ref 4] w) ∧
  (∀ (scr : pX) (w : pW) (x1 : Int32) (x2 : Int32) (x3 : Int32) (x4 : Int32) (y5 : Int64), p_ev scr 59 72 [.ref 0, .int x1, .int x2, .int x3, .int x4, .long y5, p_U] [.ref 4] w = p_ev scr 59 74 [.ref 0, .int x1, .int x2, .int x3, .int x4, .long y5, p_U] [.int x4, .ref 4] w) ∧
  (∀ (scr : pX) (w : pW) (x1 : Int32) (x2 : Int32) (x3 : Int32) (x4 : Int32) (y5 : Int64) (s0 : Int32), p_ev scr 59 74 [.ref 0, .int x1, .int x2, .int x3, .int x4, .long y5, p_U] [.int s0, .ref 4] w = p_ev scr 59 75 [.ref 0, .int x1, .int x2, .int x3, .int x4, .long y5, p_U] [.int x3, .int s0, .ref 4] w) ∧
  (∀ (scr : pX) (w : pW) (x1 : Int32) (x2 : Int32) (x3 : Int32) (x4 : Int32) (y5 : Int64) (s0 : Int32) (s1 : Int32), p_ev scr 59 75 [.ref 0, .int x1, .int x2, .int x3, .int x4, .long y5, p_U] [.int s0, .int s1, .ref 4] w = p_ev scr 59 76 [.ref 0, .int x1, .int x2, .int x3, .int x4, .long y5, p_U] [.long s0.toInt64, .int s1, .ref 4] w) ∧
  (∀ (scr : pX) (w : pW) (x1 : Int32) (x2 : Int32) (x3 : Int32) (x4 : Int32) (y5 : Int64) (t0 : Int64) (s1 : Int32), p_ev scr 59 76 [.ref 0, .int x1, .int x2, .int x3, .int x4, .long y5, p_U] [.long t0, .int s1, .ref 4] w = p_bnd scr 59 76 79 [.ref 0, .int x1, .int x2, .int x3, .int x4, .long y5, p_U] [] (p_ev none 25 0 [.ref 4, .int s1, .long t0, p_U] [] w)) ∧
  (∀ (scr : pX) (w : pW) (x1 : Int32) (x2 : Int32) (x3 : Int32) (x4 : Int32) (y5 : Int64), p_ev scr 59 79 [.ref 0, .int x1, .int x2, .int x3, .int x4, .long y5, p_U] [] w = p_ev scr 59 81 [.ref 0, .int x1, .int x2, .int x3, .int x4, .long y5, p_U] [.long y5] w) ∧
  (∀ (scr : pX) (w : pW) (x1 : Int32) (x2 : Int32) (x3 : Int32) (x4 : Int32) (y5 : Int64) (t0 : Int64), p_ev scr 59 81 [.ref 0, .int x1, .int x2, .int x3, .int x4, .long y5, p_U] [.long t0] w = some (.inl (some (.long t0)), w, 0)) :=
  ⟨fun _ _ _ _ _ => p_r (by decide +kernel : p_at 59 0 = some (.aload_n 0)) rfl,
  fun _ _ _ _ _ => p_r (by decide +kernel : p_at 59 1 = some (.iload_n 1)) rfl,
  fun _ _ _ _ _ _ => p_rcv (nl := 2) (by decide +kernel : p_at 59 2 = some (.invokevirtual 95)) (by decide +kernel : p_inv (p_own 59) 95 = some (1, 71, 2)) (by decide +kernel) (rfl : p_ob 0 = some (.inr (4, [some 1, some 2, some 4, some 3, some 5, some 6, some 7, some 19]))) rfl rfl (Nat.le_of_ble_eq_true rfl) (Nat.le_of_ble_eq_true rfl) (Nat.le_of_ble_eq_true rfl) rfl,
  fun _ _ _ _ _ => p_r (by decide +kernel : p_at 59 5 = some (.aload_n 0)) rfl,
  fun _ _ _ _ _ => p_r (by decide +kernel : p_at 59 6 = some (.iload_n 1)) rfl,
  fun _ _ _ _ _ _ => p_rcv (nl := 2) (by decide +kernel : p_at 59 7 = some (.invokevirtual 147)) (by decide +kernel : p_inv (p_own 59) 147 = some (1, 72, 2)) (by decide +kernel) (rfl : p_ob 0 = some (.inr (4, [some 1, some 2, some 4, some 3, some 5, some 6, some 7, some 19]))) rfl rfl (Nat.le_of_ble_eq_true rfl) (Nat.le_of_ble_eq_true rfl) (Nat.le_of_ble_eq_true rfl) rfl,
  fun _ _ _ _ _ => p_r (by decide +kernel : p_at 59 10 = some (.aload_n 0)) rfl,
  fun _ _ _ _ _ => p_r (by decide +kernel : p_at 59 11 = some (.iload_n 2)) rfl,
  fun _ _ _ _ _ _ => p_r (by decide +kernel : p_at 59 12 = some (.aload_n 0)) rfl,
  fun _ _ _ _ _ _ => p_rgf (f := some 1) (by decide +kernel : p_at 59 13 = some (.getfield 10)) (by decide +kernel : p_fld (p_own 59) 10 = some (4, 0)) (rfl : p_ob 0 = some (.inr (4, [some 1, some 2, some 4, some 3, some 5, some 6, some 7, some 19]))) rfl,
  fun _ _ _ _ _ _ => p_r (by decide +kernel : p_at 59 16 = some (.iload_n 1)) rfl,
  fun _ _ _ _ _ _ _ => p_rcv (nl := 2) (by decide +kernel : p_at 59 17 = some (.invokevirtual 110)) (by decide +kernel : p_inv (p_own 59) 110 = some (1, 39, 2)) (by decide +kernel) (rfl : p_ob 1 = some (.inr (3, [some 18, none]))) rfl rfl (Nat.le_of_ble_eq_true rfl) (Nat.le_of_ble_eq_true rfl) (Nat.le_of_ble_eq_true rfl) rfl,
  fun _ _ _ _ _ _ _ => p_rcv (nl := 3) (by decide +kernel : p_at 59 20 = some (.invokevirtual 150)) (by decide +kernel : p_inv (p_own 59) 150 = some (1, 76, 3)) (by decide +kernel) (rfl : p_ob 0 = some (.inr (4, [some 1, some 2, some 4, some 3, some 5, some 6, some 7, some 19]))) rfl rfl (Nat.le_of_ble_eq_true rfl) (Nat.le_of_ble_eq_true rfl) (Nat.le_of_ble_eq_true rfl) rfl,
  fun _ _ _ _ _ => p_r (by decide +kernel : p_at 59 23 = some (.iload_n 3)) rfl,
  fun _ _ _ _ _ _ => p_rldcI (by decide +kernel : p_at 59 24 = some (.ldc 157)) (by decide +kernel),
  fun _ _ _ _ _ _ _ => p_rb2 (c := fun x y => decide (x < y)) (off := 9) (by decide +kernel : p_at 59 26 = some (.if_icmp .lt 9)) (by decide +kernel) rfl rfl rfl,
  fun _ _ _ _ _ => p_r (by decide +kernel : p_at 59 29 = some (.iload_n 3)) rfl,
  fun _ _ _ _ _ _ => p_rldcI (by decide +kernel : p_at 59 30 = some (.ldc 158)) (by decide +kernel),
  fun _ _ _ _ _ _ _ => p_rb2 (c := fun x y => decide (x ≤ y)) (off := 13) (by decide +kernel : p_at 59 32 = some (.if_icmp .le 13)) (by decide +kernel) rfl rfl rfl,
  fun _ _ _ _ _ => p_rnew (by decide +kernel : p_at 59 35 = some (.new 50)) (by decide +kernel) (by decide +kernel : p_at 59 39 = some (.ldc 159)) (by decide +kernel : p_at 59 41 = some (.invokespecial 54)) (by decide +kernel) (by decide +kernel) (by decide +kernel),
  fun _ _ _ _ _ => p_r (by decide +kernel : p_at 59 45 = some (.aload_n 0)) rfl,
  fun _ _ _ _ _ => p_rgf (f := some 1) (by decide +kernel : p_at 59 46 = some (.getfield 10)) (by decide +kernel : p_fld (p_own 59) 10 = some (4, 0)) (rfl : p_ob 0 = some (.inr (4, [some 1, some 2, some 4, some 3, some 5, some 6, some 7, some 19]))) rfl,
  fun _ _ _ _ _ => p_r (by decide +kernel : p_at 59 49 = some (.iload_n 1)) rfl,
  fun _ _ _ _ _ _ => p_rcv (nl := 2) (by decide +kernel : p_at 59 50 = some (.invokevirtual 154)) (by decide +kernel : p_inv (p_own 59) 154 = some (1, 40, 2)) (by decide +kernel) (rfl : p_ob 1 = some (.inr (3, [some 18, none]))) rfl rfl (Nat.le_of_ble_eq_true rfl) (Nat.le_of_ble_eq_true rfl) (Nat.le_of_ble_eq_true rfl) rfl,
  fun _ _ _ _ _ _ => p_r (by decide +kernel : p_at 59 53 = some (.iload_n 2)) rfl,
  fun _ _ _ _ _ _ _ => p_r (by decide +kernel : p_at 59 54 = some (.iadd)) rfl,
  fun _ _ _ _ _ _ => p_r (by decide +kernel : p_at 59 55 = some (.istore 4)) rfl,
  fun _ _ _ _ _ _ => p_r (by decide +kernel : p_at 59 57 = some (.aload_n 0)) rfl,
  fun _ _ _ _ _ _ => p_rgf (f := some 4) (by decide +kernel : p_at 59 58 = some (.getfield 26)) (by decide +kernel : p_fld (p_own 59) 26 = some (4, 2)) (rfl : p_ob 0 = some (.inr (4, [some 1, some 2, some 4, some 3, some 5, some 6, some 7, some 19]))) rfl,
  fun _ _ _ _ _ _ => p_r (by decide +kernel : p_at 59 61 = some (.iload 4)) rfl,
  fun _ _ _ _ _ _ _ => p_rcv (nl := 2) (by decide +kernel : p_at 59 63 = some (.invokevirtual 76)) (by decide +kernel : p_inv (p_own 59) 76 = some (1, 24, 2)) (by decide +kernel) (rfl : p_ob 4 = some (.inr (2, [some 11]))) rfl rfl (Nat.le_of_ble_eq_true rfl) (Nat.le_of_ble_eq_true rfl) (Nat.le_of_ble_eq_true rfl) rfl,
  fun _ _ _ _ _ _ _ => p_r (by decide +kernel : p_at 59 66 = some (.lstore 5)) rfl,
  fun _ _ _ _ _ _ _ => p_r (by decide +kernel : p_at 59 68 = some (.aload_n 0)) rfl,
  fun _ _ _ _ _ _ _ => p_rgf (f := some 4) (by decide +kernel : p_at 59 69 = some (.getfield 26)) (by decide +kernel : p_fld (p_own 59) 26 = some (4, 2)) (rfl : p_ob 0 = some (.inr (4, [some 1, some 2, some 4, some 3, some 5, some 6, some 7, some 19]))) rfl,
  fun _ _ _ _ _ _ _ => p_r (by decide +kernel : p_at 59 72 = some (.iload 4)) rfl,
  fun _ _ _ _ _ _ _ _ => p_r (by decide +kernel : p_at 59 74 = some (.iload_n 3)) rfl,
  fun _ _ _ _ _ _ _ _ _ => p_r (by decide +kernel : p_at 59 75 = some (.i2l)) rfl,
  fun _ _ _ _ _ _ _ _ _ => p_rcv (nl := 4) (by decide +kernel : p_at 59 76 = some (.invokevirtual 80)) (by decide +kernel : p_inv (p_own 59) 80 = some (1, 25, 3)) (by decide +kernel) (rfl : p_ob 4 = some (.inr (2, [some 11]))) rfl rfl (Nat.le_of_ble_eq_true rfl) (Nat.le_of_ble_eq_true rfl) (Nat.le_of_ble_eq_true rfl) rfl,
  fun _ _ _ _ _ _ _ => p_r (by decide +kernel : p_at 59 79 = some (.lload 5)) rfl,
  fun _ _ _ _ _ _ _ _ => p_rlret (by decide +kernel : p_at 59 81 = some (.lreturn)) (by decide +kernel)⟩
-- 60: filtered
theorem M60 :
  (∀ (scr : pX) (w : pW) (x1 : Int32) (x2 : Int32), p_ev scr 60 0 [.ref 0, .int x1, .int x2, p_U, p_U, p_U, p_U, p_U] [] w = p_ev scr 60 1 [.ref 0, .int x1, .int x2, p_U, p_U, p_U, p_U, p_U] [.ref 0] w) ∧
  (∀ (scr : pX) (w : pW) (x1 : Int32) (x2 : Int32), p_ev scr 60 1 [.ref 0, .int x1, .int x2, p_U, p_U, p_U, p_U, p_U] [.ref 0] w = p_ev scr 60 2 [.ref 0, .int x1, .int x2, p_U, p_U, p_U, p_U, p_U] [.int x1, .ref 0] w) ∧
  (∀ (scr : pX) (w : pW) (x1 : Int32) (x2 : Int32) (s0 : Int32), p_ev scr 60 2 [.ref 0, .int x1, .int x2, p_U, p_U, p_U, p_U, p_U] [.int s0, .ref 0] w = p_bnd scr 60 2 5 [.ref 0, .int x1, .int x2, p_U, p_U, p_U, p_U, p_U] [] (p_ev none 71 0 [.ref 0, .int s0] [] w)) ∧
  (∀ (scr : pX) (w : pW) (x1 : Int32) (x2 : Int32), p_ev scr 60 5 [.ref 0, .int x1, .int x2, p_U, p_U, p_U, p_U, p_U] [] w = p_ev scr 60 6 [.ref 0, .int x1, .int x2, p_U, p_U, p_U, p_U, p_U] [.ref 0] w) ∧
  (∀ (scr : pX) (w : pW) (x1 : Int32) (x2 : Int32), p_ev scr 60 6 [.ref 0, .int x1, .int x2, p_U, p_U, p_U, p_U, p_U] [.ref 0] w = p_ev scr 60 7 [.ref 0, .int x1, .int x2, p_U, p_U, p_U, p_U, p_U] [.int x1, .ref 0] w) ∧
  (∀ (scr : pX) (w : pW) (x1 : Int32) (x2 : Int32) (s0 : Int32), p_ev scr 60 7 [.ref 0, .int x1, .int x2, p_U, p_U, p_U, p_U, p_U] [.int s0, .ref 0] w = p_bnd scr 60 7 10 [.ref 0, .int x1, .int x2, p_U, p_U, p_U, p_U, p_U] [] (p_ev none 72 0 [.ref 0, .int s0] [] w)) ∧
  (∀ (scr : pX) (w : pW) (x1 : Int32) (x2 : Int32), p_ev scr 60 10 [.ref 0, .int x1, .int x2, p_U, p_U, p_U, p_U, p_U] [] w = p_ev scr 60 11 [.ref 0, .int x1, .int x2, p_U, p_U, p_U, p_U, p_U] [.ref 0] w) ∧
  (∀ (scr : pX) (w : pW) (x1 : Int32) (x2 : Int32), p_ev scr 60 11 [.ref 0, .int x1, .int x2, p_U, p_U, p_U, p_U, p_U] [.ref 0] w = p_ev scr 60 14 [.ref 0, .int x1, .int x2, p_U, p_U, p_U, p_U, p_U] [.ref 1] w) ∧
  (∀ (scr : pX) (w : pW) (x1 : Int32) (x2 : Int32), p_ev scr 60 14 [.ref 0, .int x1, .int x2, p_U, p_U, p_U, p_U, p_U] [.ref 1] w = p_ev scr 60 15 [.ref 0, .int x1, .int x2, p_U, p_U, p_U, p_U, p_U] [.int x1, .ref 1] w) ∧
  (∀ (scr : pX) (w : pW) (x1 : Int32) (x2 : Int32) (s0 : Int32), p_ev scr 60 15 [.ref 0, .int x1, .int x2, p_U, p_U, p_U, p_U, p_U] [.int s0, .ref 1] w = p_bnd scr 60 15 18 [.ref 0, .int x1, .int x2, p_U, p_U, p_U, p_U, p_U] [] (p_ev none 39 0 [.ref 1, .int s0] [] w)) ∧
  (∀ (scr : pX) (w : pW) (x1 : Int32) (x2 : Int32) (s0 : Int32), p_ev scr 60 18 [.ref 0, .int x1, .int x2, p_U, p_U, p_U, p_U, p_U] [.int s0] w = p_ev scr 60 19 [.ref 0, .int x1, .int x2, p_U, p_U, p_U, p_U, p_U] [.int (nI 2), .int s0] w) ∧
  (∀ (scr : pX) (w : pW) (x1 : Int32) (x2 : Int32) (s0 : Int32) (s1 : Int32), ¬ s0 = 0 → p_ev scr 60 19 [.ref 0, .int x1, .int x2, p_U, p_U, p_U, p_U, p_U] [.int s0, .int s1] w = p_ev scr 60 20 [.ref 0, .int x1, .int x2, p_U, p_U, p_U, p_U, p_U] [.int (s1 / s0)] w) ∧
  (∀ (scr : pX) (w : pW) (x1 : Int32) (x2 : Int32) (s0 : Int32), p_ev scr 60 20 [.ref 0, .int x1, .int x2, p_U, p_U, p_U, p_U, p_U] [.int s0] w = p_ev scr 60 21 [.ref 0, .int x1, .int x2, .int s0, p_U, p_U, p_U, p_U] [] w) ∧
  (∀ (scr : pX) (w : pW) (x1 : Int32) (x2 : Int32) (x3 : Int32), p_ev scr 60 21 [.ref 0, .int x1, .int x2, .int x3, p_U, p_U, p_U, p_U] [] w = p_ev scr 60 22 [.ref 0, .int x1, .int x2, .int x3, p_U, p_U, p_U, p_U] [.ref 0] w) ∧
  (∀ (scr : pX) (w : pW) (x1 : Int32) (x2 : Int32) (x3 : Int32), p_ev scr 60 22 [.ref 0, .int x1, .int x2, .int x3, p_U, p_U, p_U, p_U] [.ref 0] w = p_ev scr 60 23 [.ref 0, .int x1, .int x2, .int x3, p_U, p_U, p_U, p_U] [.int x2, .ref 0] w) ∧
  (∀ (scr : pX) (w : pW) (x1 : Int32) (x2 : Int32) (x3 : Int32) (s0 : Int32), p_ev scr 60 23 [.ref 0, .int x1, .int x2, .int x3, p_U, p_U, p_U, p_U] [.int s0, .ref 0] w = p_ev scr 60 24 [.ref 0, .int x1, .int x2, .int x3, p_U, p_U, p_U, p_U] [.int x3, .int s0, .ref 0] w) ∧
  (∀ (scr : pX) (w : pW) (x1 : Int32) (x2 : Int32) (x3 : Int32) (s0 : Int32) (s1 : Int32), p_ev scr 60 24 [.ref 0, .int x1, .int x2, .int x3, p_U, p_U, p_U, p_U] [.int s0, .int s1, .ref 0] w = p_bnd scr 60 24 27 [.ref 0, .int x1, .int x2, .int x3, p_U, p_U, p_U, p_U] [] (p_ev none 76 0 [.ref 0, .int s1, .int s0] [] w)) ∧
  (∀ (scr : pX) (w : pW) (x1 : Int32) (x2 : Int32) (x3 : Int32), p_ev scr 60 27 [.ref 0, .int x1, .int x2, .int x3, p_U, p_U, p_U, p_U] [] w = p_ev scr 60 28 [.ref 0, .int x1, .int x2, .int x3, p_U, p_U, p_U, p_U] [.ref 0] w) ∧
  (∀ (scr : pX) (w : pW) (x1 : Int32) (x2 : Int32) (x3 : Int32), p_ev scr 60 28 [.ref 0, .int x1, .int x2, .int x3, p_U, p_U, p_U, p_U] [.ref 0] w = p_ev scr 60 31 [.ref 0, .int x1, .int x2, .int x3, p_U, p_U, p_U, p_U] [.ref 2] w) ∧
  (∀ (scr : pX) (w : pW) (x1 : Int32) (x2 : Int32) (x3 : Int32), p_ev scr 60 31 [.ref 0, .int x1, .int x2, .int x3, p_U, p_U, p_U, p_U] [.ref 2] w = p_bnd scr 60 31 34 [.ref 0, .int x1, .int x2, .int x3, p_U, p_U, p_U, p_U] [] (p_ev none 15 0 [.ref 2] [] w)) ∧
  (∀ (scr : pX) (w : pW) (x1 : Int32) (x2 : Int32) (x3 : Int32) (s0 : Int32), p_ev scr 60 34 [.ref 0, .int x1, .int x2, .int x3, p_U, p_U, p_U, p_U] [.int s0] w = p_ev scr 60 35 [.ref 0, .int x1, .int x2, .int x3, p_U, p_U, p_U, p_U] [.int (nI 2), .int s0] w) ∧
  (∀ (scr : pX) (w : pW) (x1 : Int32) (x2 : Int32) (x3 : Int32) (s0 : Int32) (s1 : Int32), p_ev scr 60 35 [.ref 0, .int x1, .int x2, .int x3, p_U, p_U, p_U, p_U] [.int s0, .int s1] w = if ¬ s1 = s0 then p_ev scr 60 48 [.ref 0, .int x1, .int x2, .int x3, p_U, p_U, p_U, p_U] [] w else p_ev scr 60 38 [.ref 0, .int x1, .int x2, .int x3, p_U, p_U, p_U, p_U] [] w) ∧
  (∀ (scr : pX) (w : pW) (x1 : Int32) (x2 : Int32) (x3 : Int32), p_ev scr 60 38 [.ref 0, .int x1, .int x2, .int x3, p_U, p_U, p_U, p_U] [] w = some (.inr (.inl 1), w, 1)) ∧
  (∀ (scr : pX) (w : pW) (x1 : Int32) (x2 : Int32) (x3 : Int32), p_ev scr 60 48 [.ref 0, .int x1, .int x2, .int x3, p_U, p_U, p_U, p_U] [] w = p_ev scr 60 49 [.ref 0, .int x1, .int x2, .int x3, p_U, p_U, p_U, p_U] [.ref 0] w) ∧
  (∀ (scr : pX) (w : pW) (x1 : Int32) (x2 : Int32) (x3 : Int32), p_ev scr 60 49 [.ref 0, .int x1, .int x2, .int x3, p_U, p_U, p_U, p_U] [.ref 0] w = p_ev scr 60 52 [.ref 0, .int x1, .int x2, .int x3, p_U, p_U, p_U, p_U] [.ref 1] w) ∧
  (∀ (scr : pX) (w : pW) (x1 : Int32) (x2 : Int32) (x3 : Int32), p_ev scr 60 52 [.ref 0, .int x1, .int x2, .int x3, p_U, p_U, p_U, p_U] [.ref 1] w = p_ev scr 60 53 [.ref 0, .int x1, .int x2, .int x3, p_U, p_U, p_U, p_U] [.int x1, .ref 1] w) ∧
  (∀ (scr : pX) (w : pW) (x1 : Int32) (x2 : Int32) (x3 : Int32) (s0 : Int32), p_ev scr 60 53 [.ref 0, .int x1, .int x2, .int x3, p_U, p_U, p_U, p_U] [.int s0, .ref 1] w = p_bnd scr 60 53 56 [.ref 0, .int x1, .int x2, .int x3, p_U, p_U, p_U, p_U] [] (p_ev none 40 0 [.ref 1, .int s0] [] w)) ∧
  (∀ (scr : pX) (w : pW) (x1 : Int32) (x2 : Int32) (x3 : Int32) (s0 : Int32), p_ev scr 60 56 [.ref 0, .int x1, .int x2, .int x3, p_U, p_U, p_U, p_U] [.int s0] w = p_ev scr 60 57 [.ref 0, .int x1, .int x2, .int x3, p_U, p_U, p_U, p_U] [.int (nI 2), .int s0] w) ∧
  (∀ (scr : pX) (w : pW) (x1 : Int32) (x2 : Int32) (x3 : Int32) (s0 : Int32) (s1 : Int32), p_ev scr 60 57 [.ref 0, .int x1, .int x2, .int x3, p_U, p_U, p_U, p_U] [.int s0, .int s1] w = p_ev scr 60 58 [.ref 0, .int x1, .int x2, .int x3, p_U, p_U, p_U, p_U] [.int x2, .int s0, .int s1] w) ∧
  (∀ (scr : pX) (w : pW) (x1 : Int32) (x2 : Int32) (x3 : Int32) (s0 : Int32) (s1 : Int32) (s2 : Int32), p_ev scr 60 58 [.ref 0, .int x1, .int x2, .int x3, p_U, p_U, p_U, p_U] [.int s0, .int s1, .int s2] w = p_ev scr 60 59 [.ref 0, .int x1, .int x2, .int x3, p_U, p_U, p_U, p_U] [.int (s1 * s0), .int s2] w) ∧
  (∀ (scr : pX) (w : pW) (x1 : Int32) (x2 : Int32) (x3 : Int32) (s0 : Int32) (s1 : Int32), p_ev scr 60 59 [.ref 0, .int x1, .int x2, .int x3, p_U, p_U, p_U, p_U] [.int s0, .int s1] w = p_ev scr 60 60 [.ref 0, .int x1, .int x2, .int x3, p_U, p_U, p_U, p_U] [.int (s1 + s0)] w) ∧
  (∀ (scr : pX) (w : pW) (x1 : Int32) (x2 : Int32) (x3 : Int32) (s0 : Int32), p_ev scr 60 60 [.ref 0, .int x1, .int x2, .int x3, p_U, p_U, p_U, p_U] [.int s0] w = p_ev scr 60 62 [.ref 0, .int x1, .int x2, .int x3, .int s0, p_U, p_U, p_U] [] w) ∧
  (∀ (scr : pX) (w : pW) (x1 : Int32) (x2 : Int32) (x3 : Int32) (x4 : Int32), p_ev scr 60 62 [.ref 0, .int x1, .int x2, .int x3, .int x4, p_U, p_U, p_U] [] w = p_ev scr 60 63 [.ref 0, .int x1, .int x2, .int x3, .int x4, p_U, p_U, p_U] [.ref 0] w) ∧
  (∀ (scr : pX) (w : pW) (x1 : Int32) (x2 : Int32) (x3 : Int32) (x4 : Int32), p_ev scr 60 63 [.ref 0, .int x1, .int x2, .int x3, .int x4, p_U, p_U, p_U] [.ref 0] w = p_ev scr 60 66 [.ref 0, .int x1, .int x2, .int x3, .int x4, p_U, p_U, p_U] [.ref 2] w) ∧
  (∀ (scr : pX) (w : pW) (x1 : Int32) (x2 : Int32) (x3 : Int32) (x4 : Int32), p_ev scr 60 66 [.ref 0, .int x1, .int x2, .int x3, .int x4, p_U, p_U, p_U] [.ref 2] w = p_bnd scr 60 66 69 [.ref 0, .int x1, .int x2, .int x3, .int x4, p_U, p_U, p_U] [] (p_ev none 15 0 [.ref 2] [] w)) ∧
  (∀ (scr : pX) (w : pW) (x1 : Int32) (x2 : Int32) (x3 : Int32) (x4 : Int32) (s0 : Int32), p_ev scr 60 69 [.ref 0, .int x1, .int x2, .int x3, .int x4, p_U, p_U, p_U] [.int s0] w = if ¬ s0 = nI 0 then p_ev scr 60 94 [.ref 0, .int x1, .int x2, .int x3, .int x4, p_U, p_U, p_U] [] w else p_ev scr 60 72 [.ref 0, .int x1, .int x2, .int x3, .int x4, p_U, p_U, p_U] [] w) ∧
  (∀ (scr : pX) (w : pW) (x1 : Int32) (x2 : Int32) (x3 : Int32) (x4 : Int32), p_ev scr 60 72 [.ref 0, .int x1, .int x2, .int x3, .int x4, p_U, p_U, p_U] [] w = p_ev scr 60 73 [.ref 0, .int x1, .int x2, .int x3, .int x4, p_U, p_U, p_U] [.ref 0] w) ∧
  (∀ (scr : pX) (w : pW) (x1 : Int32) (x2 : Int32) (x3 : Int32) (x4 : Int32), p_ev scr 60 73 [.ref 0, .int x1, .int x2, .int x3, .int x4, p_U, p_U, p_U] [.ref 0] w = p_ev scr 60 76 [.ref 0, .int x1, .int x2, .int x3, .int x4, p_U, p_U, p_U] [.ref 4] w) ∧
  (∀ (scr : pX) (w : pW) (x1 : Int32) (x2 : Int32) (x3 : Int32) (x4 : Int32), p_ev scr 60 76 [.ref 0, .int x1, .int x2, .int x3, .int x4, p_U, p_U, p_U] [.ref 4] w = p_ev scr 60 78 [.ref 0, .int x1, .int x2, .int x3, .int x4, p_U, p_U, p_U] [.int x4, .ref 4] w) ∧
  (∀ (scr : pX) (w : pW) (x1 : Int32) (x2 : Int32) (x3 : Int32) (x4 : Int32) (s0 : Int32), p_ev scr 60 78 [.ref 0, .int x1, .int x2, .int x3, .int x4, p_U, p_U, p_U] [.int s0, .ref 4] w = p_ev scr 60 79 [.ref 0, .int x1, .int x2, .int x3, .int x4, p_U, p_U, p_U] [.int (nI 1), .int s0, .ref 4] w) ∧
  (∀ (scr : pX) (w : pW) (x1 : Int32) (x2 : Int32) (x3 : Int32) (x4 : Int32) (s0 : Int32) (s1 : Int32), p_ev scr 60 79 [.ref 0, .int x1, .int x2, .int x3, .int x4, p_U, p_U, p_U] [.int s0, .int s1, .ref 4] w = p_ev scr 60 80 [.ref 0, .int x1, .int x2, .int x3, .int x4, p_U, p_U, p_U] [.int (s1 + s0), .ref 4] w) ∧
  (∀ (scr : pX) (w : pW) (x1 : Int32) (x2 : Int32) (x3 : Int32) (x4 : Int32) (s0 : Int32), p_ev scr 60 80 [.ref 0, .int x1, .int x2, .int x3, .int x4, p_U, p_U, p_U] [.int s0, .ref 4] w = p_bnd scr 60 80 83 [.ref 0, .int x1, .int x2, .int x3, .int x4, p_U, p_U, p_U] [] (p_ev none 24 0 [.ref 4, .int s0] [] w)) ∧
  (∀ (scr : pX) (w : pW) (x1 : Int32) (x2 : Int32) (x3 : Int32) (x4 : Int32) (t0 : Int64), p_ev scr 60 83 [.ref 0, .int x1, .int x2, .int x3, .int x4, p_U, p_U, p_U] [.long t0] w = p_ev scr 60 84 [.ref 0, .int x1, .int x2, .int x3, .int x4, p_U, p_U, p_U] [.ref 0, .long t0] w) ∧
  (∀ (scr : pX) (w : pW) (x1 : Int32) (x2 : Int32) (x3 : Int32) (x4 : Int32) (t1 : Int64), p_ev scr 60 84 [.ref 0, .int x1, .int x2, .int x3, .int x4, p_U, p_U, p_U] [.ref 0, .long t1] w = p_ev scr 60 87 [.ref 0, .int x1, .int x2, .int x3, .int x4, p_U, p_U, p_U] [.ref 4, .long t1] w) ∧
  (∀ (scr : pX) (w : pW) (x1 : Int32) (x2 : Int32) (x3 : Int32) (x4 : Int32) (t1 : Int64), p_ev scr 60 87 [.ref 0, .int x1, .int x2, .int x3, .int x4, p_U, p_U, p_U] [.ref 4, .long t1] w = p_ev scr 60 89 [.ref 0, .int x1, .int x2, .int x3, .int x4, p_U, p_U, p_U] [.int x4, .ref 4, .long t1] w) ∧
  (∀ (scr : pX) (w : pW) (x1 : Int32) (x2 : Int32) (x3 : Int32) (x4 : Int32) (s0 : Int32) (t2 : Int64), p_ev scr 60 89 [.ref 0, .int x1, .int x2, .int x3, .int x4, p_U, p_U, p_U] [.int s0, .ref 4, .long t2] w = p_bnd scr 60 89 92 [.ref 0, .int x1, .int x2, .int x3, .int x4, p_U, p_U, p_U] [.long t2] (p_ev none 24 0 [.ref 4, .int s0] [] w)) ∧
  (∀ (scr : pX) (w : pW) (x1 : Int32) (x2 : Int32) (x3 : Int32) (x4 : Int32) (t0 : Int64) (t1 : Int64), p_ev scr 60 92 [.ref 0, .int x1, .int x2, .int x3, .int x4, p_U, p_U, p_U] [.long t0, .long t1] w = p_ev scr 60 93 [.ref 0, .int x1, .int x2, .int x3, .int x4, p_U, p_U, p_U] [.long (t1 - t0)] w) ∧
  (∀ (scr : pX) (w : pW) (x1 : Int32) (x2 : Int32) (x3 : Int32) (x4 : Int32) (t0 : Int64), p_ev scr 60 93 [.ref 0, .int x1, .int x2, .int x3, .int x4, p_U, p_U, p_U] [.long t0] w = some (.inl (some (.long t0)), w, 0)) ∧
  (∀ (scr : pX) (w : pW) (x1 : Int32) (x2 : Int32) (x3 : Int32) (x4 : Int32), p_ev scr 60 94 [.ref 0, .int x1, .int x2, .int x3, .int x4, p_U, p_U, p_U] [] w = p_ev scr 60 95 [.ref 0, .int x1, .int x2, .int x3, .int x4, p_U, p_U, p_U] [.int x2] w) ∧
  (∀ (scr : pX) (w : pW) (x1 : Int32) (x2 : Int32) (x3 : Int32) (x4 : Int32) (s0 : Int32), p_ev scr 60 95 [.ref 0, .int x1, .int x2, .int x3, .int x4, p_U, p_U, p_U] [.int s0] w = p_ev scr 60 96 [.ref 0, .int x1, .int x2, .int x3, .int x4, p_U, p_U, p_U] [.int (nI 1), .int s0] w) ∧
  (∀ (scr : pX) (w : pW) (x1 : Int32) (x2 : Int32) (x3 : Int32) (x4 : Int32) (s0 : Int32) (s1 : Int32), p_ev scr 60 96 [.ref 0, .int x1, .int x2, .int x3, .int x4, p_U, p_U, p_U] [.int s0, .int s1] w = p_ev scr 60 97 [.ref 0, .int x1, .int x2, .int x3, .int x4, p_U, p_U, p_U] [.int (s1 + s0)] w) ∧
  (∀ (scr : pX) (w : pW) (x1 : Int32) (x2 : Int32) (x3 : Int32) (x4 : Int32) (s0 : Int32), p_ev scr 60 97 [.ref 0, .int x1, .int x2, .int x3, .int x4, p_U, p_U, p_U] [.int s0] w = p_ev scr 60 98 [.ref 0, .int x1, .int x2, .int x3, .int x4, p_U, p_U, p_U] [.int x3, .int s0] w) ∧
  (∀ (scr : pX) (w : pW) (x1 : Int32) (x2 : Int32) (x3 : Int32) (x4 : Int32) (s0 : Int32) (s1 : Int32), p_ev scr 60 98 [.ref 0, .int x1, .int x2, .int x3, .int x4, p_U, p_U, p_U] [.int s0, .int s1] w = if s0 ≤ s1 then p_ev scr 60 108 [.ref 0, .int x1, .int x2, .int x3, .int x4, p_U, p_U, p_U] [] w else p_ev scr 60 101 [.ref 0, .int x1, .int x2, .int x3, .int x4, p_U, p_U, p_U] [] w) ∧
  (∀ (scr : pX) (w : pW) (x1 : Int32) (x2 : Int32) (x3 : Int32) (x4 : Int32), p_ev scr 60 101 [.ref 0, .int x1, .int x2, .int x3, .int x4, p_U, p_U, p_U] [] w = p_ev scr 60 103 [.ref 0, .int x1, .int x2, .int x3, .int x4, p_U, p_U, p_U] [.int x4] w) ∧
  (∀ (scr : pX) (w : pW) (x1 : Int32) (x2 : Int32) (x3 : Int32) (x4 : Int32) (s0 : Int32), p_ev scr 60 103 [.ref 0, .int x1, .int x2, .int x3, .int x4, p_U, p_U, p_U] [.int s0] w = p_ev scr 60 104 [.ref 0, .int x1, .int x2, .int x3, .int x4, p_U, p_U, p_U] [.int (nI 2), .int s0] w) ∧
  (∀ (scr : pX) (w : pW) (x1 : Int32) (x2 : Int32) (x3 : Int32) (x4 : Int32) (s0 : Int32) (s1 : Int32), p_ev scr 60 104 [.ref 0, .int x1, .int x2, .int x3, .int x4, p_U, p_U, p_U] [.int s0, .int s1] w = p_ev scr 60 105 [.ref 0, .int x1, .int x2, .int x3, .int x4, p_U, p_U, p_U] [.int (s1 + s0)] w) ∧
  (∀ (scr : pX) (w : pW) (x1 : Int32) (x2 : Int32) (x3 : Int32) (x4 : Int32) (s0 : Int32), p_ev scr 60 105 [.ref 0, .int x1, .int x2, .int x3, .int x4, p_U, p_U, p_U] [.int s0] w = p_ev scr 60 110 [.ref 0, .int x1, .int x2, .int x3, .int x4, p_U, p_U, p_U] [.int s0] w) ∧
  (∀ (scr : pX) (w : pW) (x1 : Int32) (x2 : Int32) (x3 : Int32) (x4 : Int32), p_ev scr 60 108 [.ref 0, .int x1, .int x2, .int x3, .int x4, p_U, p_U, p_U] [] w = p_ev scr 60 110 [.ref 0, .int x1, .int x2, .int x3, .int x4, p_U, p_U, p_U] [.int x4] w) ∧
  (∀ (scr : pX) (w : pW) (x1 : Int32) (x2 : Int32) (x3 : Int32) (x4 : Int32) (s0 : Int32), p_ev scr 60 110 [.ref 0, .int x1, .int x2, .int x3, .int x4, p_U, p_U, p_U] [.int s0] w = p_ev scr 60 112 [.ref 0, .int x1, .int x2, .int x3, .int x4, .int s0, p_U, p_U] [] w) ∧
  (∀ (scr : pX) (w : pW) (x1 : Int32) (x2 : Int32) (x3 : Int32) (x4 : Int32) (x5 : Int32), p_ev scr 60 112 [.ref 0, .int x1, .int x2, .int x3, .int x4, .int x5, p_U, p_U] [] w = p_ev scr 60 115 [.ref 0, .int x1, .int x2, .int x3, .int x4, .int x5, p_U, p_U] [.long (lN 2)] w) ∧
  (∀ (scr : pX) (w : pW) (x1 : Int32) (x2 : Int32) (x3 : Int32) (x4 : Int32) (x5 : Int32) (t0 : Int64), p_ev scr 60 115 [.ref 0, .int x1, .int x2, .int x3, .int x4, .int x5, p_U, p_U] [.long t0] w = p_ev scr 60 116 [.ref 0, .int x1, .int x2, .int x3, .int x4, .int x5, p_U, p_U] [.ref 0, .long t0] w) ∧
  (∀ (scr : pX) (w : pW) (x1 : Int32) (x2 : Int32) (x3 : Int32) (x4 : Int32) (x5 : Int32) (t1 : Int64), p_ev scr 60 116 [.ref 0, .int x1, .int x2, .int x3, .int x4, .int x5, p_U, p_U] [.ref 0, .long t1] w = p_ev scr 60 119 [.ref 0, .int x1, .int x2, .int x3, .int x4, .int x5, p_U, p_U] [.ref 4, .long t1] w) ∧
  (∀ (scr : pX) (w : pW) (x1 : Int32) (x2 : Int32) (x3 : Int32) (x4 : Int32) (x5 : Int32) (t1 : Int64), p_ev scr 60 119 [.ref 0, .int x1, .int x2, .int x3, .int x4, .int x5, p_U, p_U] [.ref 4, .long t1] w = p_ev scr 60 121 [.ref 0, .int x1, .int x2, .int x3, .int x4, .int x5, p_U, p_U] [.int x4, .ref 4, .long t1] w) ∧
  (∀ (scr : pX) (w : pW) (x1 : Int32) (x2 : Int32) (x3 : Int32) (x4 : Int32) (x5 : Int32) (s0 : Int32) (t2 : Int64), p_ev scr 60 121 [.ref 0, .int x1, .int x2, .int x3, .int x4, .int x5, p_U, p_U] [.int s0, .ref 4, .long t2] w = p_ev scr 60 122 [.ref 0, .int x1, .int x2, .int x3, .int x4, .int x5, p_U, p_U] [.int (nI 1), .int s0, .ref 4, .long t2] w) ∧
  (∀ (scr : pX) (w : pW) (x1 : Int32) (x2 : Int32) (x3 : Int32) (x4 : Int32) (x5 : Int32) (s0 : Int32) (s1 : Int32) (t3 : Int64), p_ev scr 60 122 [.ref 0, .int x1, .int x2, .int x3, .int x4, .int x5, p_U, p_U] [.int s0, .int s1, .ref 4, .long t3] w = p_ev scr 60 123 [.ref 0, .int x1, .int x2, .int x3, .int x4, .int x5, p_U, p_U] [.int (s1 + s0), .ref 4, .long t3] w) ∧
  (∀ (scr : pX) (w : pW) (x1 : Int32) (x2 : Int32) (x3 : Int32) (x4 : Int32) (x5 : Int32) (s0 : Int32) (t2 : Int64), p_ev scr 60 123 [.ref 0, .int x1, .int x2, .int x3, .int x4, .int x5, p_U, p_U] [.int s0, .ref 4, .long t2] w = p_bnd scr 60 123 126 [.ref 0, .int x1, .int x2, .int x3, .int x4, .int x5, p_U, p_U] [.long t2] (p_ev none 24 0 [.ref 4, .int s0] [] w)) ∧
  (∀ (scr : pX) (w : pW) (x1 : Int32) (x2 : Int32) (x3 : Int32) (x4 : Int32) (x5 : Int32) (t0 : Int64) (t1 : Int64), p_ev scr 60 126 [.ref 0, .int x1, .int x2, .int x3, .int x4, .int x5, p_U, p_U] [.long t0, .long t1] w = p_ev scr 60 127 [.ref 0, .int x1, .int x2, .int x3, .int x4, .int x5, p_U, p_U] [.long (t1 * t0)] w) ∧
  (∀ (scr : pX) (w : pW) (x1 : Int32) (x2 : Int32) (x3 : Int32) (x4 : Int32) (x5 : Int32) (t0 : Int64), p_ev scr 60 127 [.ref 0, .int x1, .int x2, .int x3, .int x4, .int x5, p_U, p_U] [.long t0] w = p_ev scr 60 128 [.ref 0, .int x1, .int x2, .int x3, .int x4, .int x5, p_U, p_U] [.ref 0, .long t0] w) ∧
  (∀ (scr : pX) (w : pW) (x1 : Int32) (x2 : Int32) (x3 : Int32) (x4 : Int32) (x5 : Int32) (t1 : Int64), p_ev scr 60 128 [.ref 0, .int x1, .int x2, .int x3, .int x4, .int x5, p_U, p_U] [.ref 0, .long t1] w = p_ev scr 60 131 [.ref 0, .int x1, .int x2, .int x3, .int x4, .int x5, p_U, p_U] [.ref 4, .long t1] w) ∧
  (∀ (scr : pX) (w : pW) (x1 : Int32) (x2 : Int32) (x3 : Int32) (x4 : Int32) (x5 : Int32) (t1 : Int64), p_ev scr 60 131 [.ref 0, .int x1, .int x2, .int x3, .int x4, .int x5, p_U, p_U] [.ref 4, .long t1] w = p_ev scr 60 133 [.ref 0, .int x1, .int x2, .int x3, .int x4, .int x5, p_U, p_U] [.int x4, .ref 4, .long t1] w) ∧
  (∀ (scr : pX) (w : pW) (x1 : Int32) (x2 : Int32) (x3 : Int32) (x4 : Int32) (x5 : Int32) (s0 : Int32) (t2 : Int64), p_ev scr 60 133 [.ref 0, .int x1, .int x2, .int x3, .int x4, .int x5, p_U, p_U] [.int s0, .ref 4, .long t2] w = p_bnd scr 60 133 136 [.ref 0, .int x1, .int x2, .int x3, .int x4, .int x5, p_U, p_U] [.long t2] (p_ev none 24 0 [.ref 4, .int s0] [] w)) ∧
  (∀ (scr : pX) (w : pW) (x1 : Int32) (x2 : Int32) (x3 : Int32) (x4 : Int32) (x5 : Int32) (t0 : Int64) (t1 : Int64), p_ev scr 60 136 [.ref 0, .int x1, .int x2, .int x3, .int x4, .int x5, p_U, p_U] [.long t0, .long t1] w = p_ev scr 60 137 [.ref 0, .int x1, .int x2, .int x3, .int x4, .int x5, p_U, p_U] [.long (t1 - t0)] w) ∧
  (∀ (scr : pX) (w : pW) (x1 : Int32) (x2 : Int32) (x3 : Int32) (x4 : Int32) (x5 : Int32) (t0 : Int64), p_ev scr 60 137 [.ref 0, .int x1, .int x2, .int x3, .int x4, .int x5, p_U, p_U] [.long t0] w = p_ev scr 60 138 [.ref 0, .int x1, .int x2, .int x3, .int x4, .int x5, p_U, p_U] [.ref 0, .long t0] w) ∧
  (∀ (scr : pX) (w : pW) (x1 : Int32) (x2 : Int32) (x3 : Int32) (x4 : Int32) (x5 : Int32) (t1 : Int64), p_ev scr 60 138 [.ref 0, .int x1, .int x2, .int x3, .int x4, .int x5, p_U, p_U] [.ref 0, .long t1] w = p_ev scr 60 141 [.ref 0, .int x1, .int x2, .int x3, .int x4, .int x5, p_U, p_U] [.ref 4, .long t1] w) ∧
  (∀ (scr : pX) (w : pW) (x1 : Int32) (x2 : Int32) (x3 : Int32) (x4 : Int32) (x5 : Int32) (t1 : Int64), p_ev scr 60 141 [.ref 0, .int x1, .int x2, .int x3, .int x4, .int x5, p_U, p_U] [.ref 4, .long t1] w = p_ev scr 60 143 [.ref 0, .int x1, .int x2, .int x3, .int x4, .int x5, p_U, p_U] [.int x5, .ref 4, .long t1] w) ∧
  (∀ (scr : pX) (w : pW) (x1 : Int32) (x2 : Int32) (x3 : Int32) (x4 : Int32) (x5 : Int32) (s0 : Int32) (t2 : Int64), p_ev scr 60 143 [.ref 0, .int x1, .int x2, .int x3, .int x4, .int x5, p_U, p_U] [.int s0, .ref 4, .long t2] w = p_bnd scr 60 143 146 [.ref 0, .int x1, .int x2, .int x3, .int x4, .int x5, p_U, p_U] [.long t2] (p_ev none 24 0 [.ref 4, .int s0] [] w)) ∧
  (∀ (scr : pX) (w : pW) (x1 : Int32) (x2 : Int32) (x3 : Int32) (x4 : Int32) (x5 : Int32) (t0 : Int64) (t1 : Int64), p_ev scr 60 146 [.ref 0, .int x1, .int x2, .int x3, .int x4, .int x5, p_U, p_U] [.long t0, .long t1] w = p_ev scr 60 147 [.ref 0, .int x1, .int x2, .int x3, .int x4, .int x5, p_U, p_U] [.long (t1 - t0)] w) ∧
  (∀ (scr : pX) (w : pW) (x1 : Int32) (x2 : Int32) (x3 : Int32) (x4 : Int32) (x5 : Int32) (t0 : Int64), p_ev scr 60 147 [.ref 0, .int x1, .int x2, .int x3, .int x4, .int x5, p_U, p_U] [.long t0] w = p_ev scr 60 149 [.ref 0, .int x1, .int x2, .int x3, .int x4, .int x5, .long t0, p_U] [] w) ∧
  (∀ (scr : pX) (w : pW) (x1 : Int32) (x2 : Int32) (x3 : Int32) (x4 : Int32) (x5 : Int32) (y6 : Int64), p_ev scr 60 149 [.ref 0, .int x1, .int x2, .int x3, .int x4, .int x5, .long y6, p_U] [] w = p_ev scr 60 151 [.ref 0, .int x1, .int x2, .int x3, .int x4, .int x5, .long y6, p_U] [.long y6] w) ∧
  (∀ (scr : pX) (w : pW) (x1 : Int32) (x2 : Int32) (x3 : Int32) (x4 : Int32) (x5 : Int32) (y6 : Int64) (t0 : Int64), p_ev scr 60 151 [.ref 0, .int x1, .int x2, .int x3, .int x4, .int x5, .long y6, p_U] [.long t0] w = p_ev scr 60 152 [.ref 0, .int x1, .int x2, .int x3, .int x4, .int x5, .long y6, p_U] [.long (lN 1), .long t0] w) ∧
  (∀ (scr : pX) (w : pW) (x1 : Int32) (x2 : Int32) (x3 : Int32) (x4 : Int32) (x5 : Int32) (y6 : Int64) (t0 : Int64) (t1 : Int64), p_ev scr 60 152 [.ref 0, .int x1, .int x2, .int x3, .int x4, .int x5, .long y6, p_U] [.long t0, .long t1] w = p_ev scr 60 153 [.ref 0, .int x1, .int x2, .int x3, .int x4, .int x5, .long y6, p_U] [.long (t1 + t0)] w) ∧
  (∀ (scr : pX) (w : pW) (x1 : Int32) (x2 : Int32) (x3 : Int32) (x4 : Int32) (x5 : Int32) (y6 : Int64) (t0 : Int64), p_ev scr 60 153 [.ref 0, .int x1, .int x2, .int x3, .int x4, .int x5, .long y6, p_U] [.long t0] w = p_ev scr 60 154 [.ref 0, .int x1, .int x2, .int x3, .int x4, .int x5, .long y6, p_U] [.int (nI 1), .long t0] w) ∧
  (∀ (scr : pX) (w : pW) (x1 : Int32) (x2 : Int32) (x3 : Int32) (x4 : Int32) (x5 : Int32) (y6 : Int64) (s0 : Int32) (t1 : Int64), p_ev scr 60 154 [.ref 0, .int x1, .int x2, .int x3, .int x4, .int x5, .long y6, p_U] [.int s0, .long t1] w = p_ev scr 60 155 [.ref 0, .int x1, .int x2, .int x3, .int x4, .int x5, .long y6, p_U] [.long (t1 >>> (s0.toInt64 &&& 63))] w) ∧
  (∀ (scr : pX) (w : pW) (x1 : Int32) (x2 : Int32) (x3 : Int32) (x4 : Int32) (x5 : Int32) (y6 : Int64) (t0 : Int64), p_ev scr 60 155 [.ref 0, .int x1, .int x2, .int x3, .int x4, .int x5, .long y6, p_U] [.long t0] w = some (.inl (some (.long t0)), w, 0)) :=
  ⟨fun _ _ _ _ => p_r (by decide +kernel : p_at 60 0 = some (.aload_n 0)) rfl,
  fun _ _ _ _ => p_r (by decide +kernel : p_at 60 1 = some (.iload_n 1)) rfl,
  fun _ _ _ _ _ => p_rcv (nl := 2) (by decide +kernel : p_at 60 2 = some (.invokevirtual 95)) (by decide +kernel : p_inv (p_own 60) 95 = some (1, 71, 2)) (by decide +kernel) (rfl : p_ob 0 = some (.inr (4, [some 1, some 2, some 4, some 3, some 5, some 6, some 7, some 19]))) rfl rfl (Nat.le_of_ble_eq_true rfl) (Nat.le_of_ble_eq_true rfl) (Nat.le_of_ble_eq_true rfl) rfl,
  fun _ _ _ _ => p_r (by decide +kernel : p_at 60 5 = some (.aload_n 0)) rfl,
  fun _ _ _ _ => p_r (by decide +kernel : p_at 60 6 = some (.iload_n 1)) rfl,
  fun _ _ _ _ _ => p_rcv (nl := 2) (by decide +kernel : p_at 60 7 = some (.invokevirtual 147)) (by decide +kernel : p_inv (p_own 60) 147 = some (1, 72, 2)) (by decide +kernel) (rfl : p_ob 0 = some (.inr (4, [some 1, some 2, some 4, some 3, some 5, some 6, some 7, some 19]))) rfl rfl (Nat.le_of_ble_eq_true rfl) (Nat.le_of_ble_eq_true rfl) (Nat.le_of_ble_eq_true rfl) rfl,
  fun _ _ _ _ => p_r (by decide +kernel : p_at 60 10 = some (.aload_n 0)) rfl,
  fun _ _ _ _ => p_rgf (f := some 1) (by decide +kernel : p_at 60 11 = some (.getfield 10)) (by decide +kernel : p_fld (p_own 60) 10 = some (4, 0)) (rfl : p_ob 0 = some (.inr (4, [some 1, some 2, some 4, some 3, some 5, some 6, some 7, some 19]))) rfl,
  fun _ _ _ _ => p_r (by decide +kernel : p_at 60 14 = some (.iload_n 1)) rfl,
  fun _ _ _ _ _ => p_rcv (nl := 2) (by decide +kernel : p_at 60 15 = some (.invokevirtual 110)) (by decide +kernel : p_inv (p_own 60) 110 = some (1, 39, 2)) (by decide +kernel) (rfl : p_ob 1 = some (.inr (3, [some 18, none]))) rfl rfl (Nat.le_of_ble_eq_true rfl) (Nat.le_of_ble_eq_true rfl) (Nat.le_of_ble_eq_true rfl) rfl,
  fun _ _ _ _ _ => p_r (by decide +kernel : p_at 60 18 = some (.iconst 2)) rfl,
  fun _ _ _ _ _ _ hp => p_ridiv (by decide +kernel : p_at 60 19 = some (.idiv)) hp,
  fun _ _ _ _ _ => p_r (by decide +kernel : p_at 60 20 = some (.istore_n 3)) rfl,
  fun _ _ _ _ _ => p_r (by decide +kernel : p_at 60 21 = some (.aload_n 0)) rfl,
  fun _ _ _ _ _ => p_r (by decide +kernel : p_at 60 22 = some (.iload_n 2)) rfl,
  fun _ _ _ _ _ _ => p_r (by decide +kernel : p_at 60 23 = some (.iload_n 3)) rfl,
  fun _ _ _ _ _ _ _ => p_rcv (nl := 3) (by decide +kernel : p_at 60 24 = some (.invokevirtual 150)) (by decide +kernel : p_inv (p_own 60) 150 = some (1, 76, 3)) (by decide +kernel) (rfl : p_ob 0 = some (.inr (4, [some 1, some 2, some 4, some 3, some 5, some 6, some 7, some 19]))) rfl rfl (Nat.le_of_ble_eq_true rfl) (Nat.le_of_ble_eq_true rfl) (Nat.le_of_ble_eq_true rfl) rfl,
  fun _ _ _ _ _ => p_r (by decide +kernel : p_at 60 27 = some (.aload_n 0)) rfl,
  fun _ _ _ _ _ => p_rgf (f := some 2) (by decide +kernel : p_at 60 28 = some (.getfield 19)) (by decide +kernel : p_fld (p_own 60) 19 = some (4, 1)) (rfl : p_ob 0 = some (.inr (4, [some 1, some 2, some 4, some 3, some 5, some 6, some 7, some 19]))) rfl,
  fun _ _ _ _ _ => p_rcv (nl := 1) (by decide +kernel : p_at 60 31 = some (.invokevirtual 89)) (by decide +kernel : p_inv (p_own 60) 89 = some (1, 15, 1)) (by decide +kernel) (rfl : p_ob 2 = some (.inr (1, [some 8, none]))) rfl rfl (Nat.le_of_ble_eq_true rfl) (Nat.le_of_ble_eq_true rfl) (Nat.le_of_ble_eq_true rfl) rfl,
  fun _ _ _ _ _ _ => p_r (by decide +kernel : p_at 60 34 = some (.iconst 2)) rfl,
  fun _ _ _ _ _ _ _ => p_rb2 (c := fun x y => decide (¬ x = y)) (off := 13) (by decide +kernel : p_at 60 35 = some (.if_icmp .ne 13)) (by decide +kernel) rfl rfl rfl,
  fun _ _ _ _ _ => p_rnew (by decide +kernel : p_at 60 38 = some (.new 102)) (by decide +kernel) (by decide +kernel : p_at 60 42 = some (.ldc 161)) (by decide +kernel : p_at 60 44 = some (.invokespecial 106)) (by decide +kernel) (by decide +kernel) (by decide +kernel),
  fun _ _ _ _ _ => p_r (by decide +kernel : p_at 60 48 = some (.aload_n 0)) rfl,
  fun _ _ _ _ _ => p_rgf (f := some 1) (by decide +kernel : p_at 60 49 = some (.getfield 10)) (by decide +kernel : p_fld (p_own 60) 10 = some (4, 0)) (rfl : p_ob 0 = some (.inr (4, [some 1, some 2, some 4, some 3, some 5, some 6, some 7, some 19]))) rfl,
  fun _ _ _ _ _ => p_r (by decide +kernel : p_at 60 52 = some (.iload_n 1)) rfl,
  fun _ _ _ _ _ _ => p_rcv (nl := 2) (by decide +kernel : p_at 60 53 = some (.invokevirtual 154)) (by decide +kernel : p_inv (p_own 60) 154 = some (1, 40, 2)) (by decide +kernel) (rfl : p_ob 1 = some (.inr (3, [some 18, none]))) rfl rfl (Nat.le_of_ble_eq_true rfl) (Nat.le_of_ble_eq_true rfl) (Nat.le_of_ble_eq_true rfl) rfl,
  fun _ _ _ _ _ _ => p_r (by decide +kernel : p_at 60 56 = some (.iconst 2)) rfl,
  fun _ _ _ _ _ _ _ => p_r (by decide +kernel : p_at 60 57 = some (.iload_n 2)) rfl,
  fun _ _ _ _ _ _ _ _ => p_r (by decide +kernel : p_at 60 58 = some (.imul)) rfl,
  fun _ _ _ _ _ _ _ => p_r (by decide +kernel : p_at 60 59 = some (.iadd)) rfl,
  fun _ _ _ _ _ _ => p_r (by decide +kernel : p_at 60 60 = some (.istore 4)) rfl,
  fun _ _ _ _ _ _ => p_r (by decide +kernel : p_at 60 62 = some (.aload_n 0)) rfl,
  fun _ _ _ _ _ _ => p_rgf (f := some 2) (by decide +kernel : p_at 60 63 = some (.getfield 19)) (by decide +kernel : p_fld (p_own 60) 19 = some (4, 1)) (rfl : p_ob 0 = some (.inr (4, [some 1, some 2, some 4, some 3, some 5, some 6, some 7, some 19]))) rfl,
  fun _ _ _ _ _ _ => p_rcv (nl := 1) (by decide +kernel : p_at 60 66 = some (.invokevirtual 89)) (by decide +kernel : p_inv (p_own 60) 89 = some (1, 15, 1)) (by decide +kernel) (rfl : p_ob 2 = some (.inr (1, [some 8, none]))) rfl rfl (Nat.le_of_ble_eq_true rfl) (Nat.le_of_ble_eq_true rfl) (Nat.le_of_ble_eq_true rfl) rfl,
  fun _ _ _ _ _ _ _ => p_rb1 (c := fun x => decide (¬ x = 0)) (off := 25) (by decide +kernel : p_at 60 69 = some (.ifCond .ne 25)) (by decide +kernel) rfl rfl rfl,
  fun _ _ _ _ _ _ => p_r (by decide +kernel : p_at 60 72 = some (.aload_n 0)) rfl,
  fun _ _ _ _ _ _ => p_rgf (f := some 4) (by decide +kernel : p_at 60 73 = some (.getfield 26)) (by decide +kernel : p_fld (p_own 60) 26 = some (4, 2)) (rfl : p_ob 0 = some (.inr (4, [some 1, some 2, some 4, some 3, some 5, some 6, some 7, some 19]))) rfl,
  fun _ _ _ _ _ _ => p_r (by decide +kernel : p_at 60 76 = some (.iload 4)) rfl,
  fun _ _ _ _ _ _ _ => p_r (by decide +kernel : p_at 60 78 = some (.iconst 1)) rfl,
  fun _ _ _ _ _ _ _ _ => p_r (by decide +kernel : p_at 60 79 = some (.iadd)) rfl,
  fun _ _ _ _ _ _ _ => p_rcv (nl := 2) (by decide +kernel : p_at 60 80 = some (.invokevirtual 76)) (by decide +kernel : p_inv (p_own 60) 76 = some (1, 24, 2)) (by decide +kernel) (rfl : p_ob 4 = some (.inr (2, [some 11]))) rfl rfl (Nat.le_of_ble_eq_true rfl) (Nat.le_of_ble_eq_true rfl) (Nat.le_of_ble_eq_true rfl) rfl,
  fun _ _ _ _ _ _ _ => p_r (by decide +kernel : p_at 60 83 = some (.aload_n 0)) rfl,
  fun _ _ _ _ _ _ _ => p_rgf (f := some 4) (by decide +kernel : p_at 60 84 = some (.getfield 26)) (by decide +kernel : p_fld (p_own 60) 26 = some (4, 2)) (rfl : p_ob 0 = some (.inr (4, [some 1, some 2, some 4, some 3, some 5, some 6, some 7, some 19]))) rfl,
  fun _ _ _ _ _ _ _ => p_r (by decide +kernel : p_at 60 87 = some (.iload 4)) rfl,
  fun _ _ _ _ _ _ _ _ => p_rcv (nl := 2) (by decide +kernel : p_at 60 89 = some (.invokevirtual 76)) (by decide +kernel : p_inv (p_own 60) 76 = some (1, 24, 2)) (by decide +kernel) (rfl : p_ob 4 = some (.inr (2, [some 11]))) rfl rfl (Nat.le_of_ble_eq_true rfl) (Nat.le_of_ble_eq_true rfl) (Nat.le_of_ble_eq_true rfl) rfl,
  fun _ _ _ _ _ _ _ _ => p_r (by decide +kernel : p_at 60 92 = some (.lsub)) rfl,
  fun _ _ _ _ _ _ _ => p_rlret (by decide +kernel : p_at 60 93 = some (.lreturn)) (by decide +kernel),
  fun _ _ _ _ _ _ => p_r (by decide +kernel : p_at 60 94 = some (.iload_n 2)) rfl,
  fun _ _ _ _ _ _ _ => p_r (by decide +kernel : p_at 60 95 = some (.iconst 1)) rfl,
  fun _ _ _ _ _ _ _ _ => p_r (by decide +kernel : p_at 60 96 = some (.iadd)) rfl,
  fun _ _ _ _ _ _ _ => p_r (by decide +kernel : p_at 60 97 = some (.iload_n 3)) rfl,
  fun _ _ _ _ _ _ _ _ => p_rb2 (c := fun x y => decide (y ≤ x)) (off := 10) (by decide +kernel : p_at 60 98 = some (.if_icmp .ge 10)) (by decide +kernel) rfl rfl rfl,
  fun _ _ _ _ _ _ => p_r (by decide +kernel : p_at 60 101 = some (.iload 4)) rfl,
  fun _ _ _ _ _ _ _ => p_r (by decide +kernel : p_at 60 103 = some (.iconst 2)) rfl,
  fun _ _ _ _ _ _ _ _ => p_r (by decide +kernel : p_at 60 104 = some (.iadd)) rfl,
  fun _ _ _ _ _ _ _ => p_rgo (by decide +kernel : p_at 60 105 = some (.goto 5)) (by decide +kernel),
  fun _ _ _ _ _ _ => p_r (by decide +kernel : p_at 60 108 = some (.iload 4)) rfl,
  fun _ _ _ _ _ _ _ => p_r (by decide +kernel : p_at 60 110 = some (.istore 5)) rfl,
  fun _ _ _ _ _ _ _ => p_rldcJ (by decide +kernel : p_at 60 112 = some (.ldc2_w 163)) (by decide +kernel),
  fun _ _ _ _ _ _ _ _ => p_r (by decide +kernel : p_at 60 115 = some (.aload_n 0)) rfl,
  fun _ _ _ _ _ _ _ _ => p_rgf (f := some 4) (by decide +kernel : p_at 60 116 = some (.getfield 26)) (by decide +kernel : p_fld (p_own 60) 26 = some (4, 2)) (rfl : p_ob 0 = some (.inr (4, [some 1, some 2, some 4, some 3, some 5, some 6, some 7, some 19]))) rfl,
  fun _ _ _ _ _ _ _ _ => p_r (by decide +kernel : p_at 60 119 = some (.iload 4)) rfl,
  fun _ _ _ _ _ _ _ _ _ => p_r (by decide +kernel : p_at 60 121 = some (.iconst 1)) rfl,
  fun _ _ _ _ _ _ _ _ _ _ => p_r (by decide +kernel : p_at 60 122 = some (.iadd)) rfl,
  fun _ _ _ _ _ _ _ _ _ => p_rcv (nl := 2) (by decide +kernel : p_at 60 123 = some (.invokevirtual 76)) (by decide +kernel : p_inv (p_own 60) 76 = some (1, 24, 2)) (by decide +kernel) (rfl : p_ob 4 = some (.inr (2, [some 11]))) rfl rfl (Nat.le_of_ble_eq_true rfl) (Nat.le_of_ble_eq_true rfl) (Nat.le_of_ble_eq_true rfl) rfl,
  fun _ _ _ _ _ _ _ _ _ => p_r (by decide +kernel : p_at 60 126 = some (.lmul)) rfl,
  fun _ _ _ _ _ _ _ _ => p_r (by decide +kernel : p_at 60 127 = some (.aload_n 0)) rfl,
  fun _ _ _ _ _ _ _ _ => p_rgf (f := some 4) (by decide +kernel : p_at 60 128 = some (.getfield 26)) (by decide +kernel : p_fld (p_own 60) 26 = some (4, 2)) (rfl : p_ob 0 = some (.inr (4, [some 1, some 2, some 4, some 3, some 5, some 6, some 7, some 19]))) rfl,
  fun _ _ _ _ _ _ _ _ => p_r (by decide +kernel : p_at 60 131 = some (.iload 4)) rfl,
  fun _ _ _ _ _ _ _ _ _ => p_rcv (nl := 2) (by decide +kernel : p_at 60 133 = some (.invokevirtual 76)) (by decide +kernel : p_inv (p_own 60) 76 = some (1, 24, 2)) (by decide +kernel) (rfl : p_ob 4 = some (.inr (2, [some 11]))) rfl rfl (Nat.le_of_ble_eq_true rfl) (Nat.le_of_ble_eq_true rfl) (Nat.le_of_ble_eq_true rfl) rfl,
  fun _ _ _ _ _ _ _ _ _ => p_r (by decide +kernel : p_at 60 136 = some (.lsub)) rfl,
  fun _ _ _ _ _ _ _ _ => p_r (by decide +kernel : p_at 60 137 = some (.aload_n 0)) rfl,
  fun _ _ _ _ _ _ _ _ => p_rgf (f := some 4) (by decide +kernel : p_at 60 138 = some (.getfield 26)) (by decide +kernel : p_fld (p_own 60) 26 = some (4, 2)) (rfl : p_ob 0 = some (.inr (4, [some 1, some 2, some 4, some 3, some 5, some 6, some 7, some 19]))) rfl,
  fun _ _ _ _ _ _ _ _ => p_r (by decide +kernel : p_at 60 141 = some (.iload 5)) rfl,
  fun _ _ _ _ _ _ _ _ _ => p_rcv (nl := 2) (by decide +kernel : p_at 60 143 = some (.invokevirtual 76)) (by decide +kernel : p_inv (p_own 60) 76 = some (1, 24, 2)) (by decide +kernel) (rfl : p_ob 4 = some (.inr (2, [some 11]))) rfl rfl (Nat.le_of_ble_eq_true rfl) (Nat.le_of_ble_eq_true rfl) (Nat.le_of_ble_eq_true rfl) rfl,
  fun _ _ _ _ _ _ _ _ _ => p_r (by decide +kernel : p_at 60 146 = some (.lsub)) rfl,
  fun _ _ _ _ _ _ _ _ => p_r (by decide +kernel : p_at 60 147 = some (.lstore 6)) rfl,
  fun _ _ _ _ _ _ _ _ => p_r (by decide +kernel : p_at 60 149 = some (.lload 6)) rfl,
  fun _ _ _ _ _ _ _ _ _ => p_r (by decide +kernel : p_at 60 151 = some (.lconst 1)) rfl,
  fun _ _ _ _ _ _ _ _ _ _ => p_r (by decide +kernel : p_at 60 152 = some (.ladd)) rfl,
  fun _ _ _ _ _ _ _ _ _ => p_r (by decide +kernel : p_at 60 153 = some (.iconst 1)) rfl,
  fun _ _ _ _ _ _ _ _ _ _ => p_r (by decide +kernel : p_at 60 154 = some (.lshr)) rfl,
  fun _ _ _ _ _ _ _ _ _ => p_rlret (by decide +kernel : p_at 60 155 = some (.lreturn)) (by decide +kernel)⟩
-- 61: hard
theorem M61 :
  (∀ (scr : pX) (w : pW) (x1 : Int32) (x2 : Int32), p_ev scr 61 0 [.ref 0, .int x1, .int x2] [] w = p_ev scr 61 1 [.ref 0, .int x1, .int x2] [.ref 0] w) ∧
  (∀ (scr : pX) (w : pW) (x1 : Int32) (x2 : Int32), p_ev scr 61 1 [.ref 0, .int x1, .int x2] [.ref 0] w = p_ev scr 61 2 [.ref 0, .int x1, .int x2] [.int x1, .ref 0] w) ∧
  (∀ (scr : pX) (w : pW) (x1 : Int32) (x2 : Int32) (s0 : Int32), p_ev scr 61 2 [.ref 0, .int x1, .int x2] [.int s0, .ref 0] w = p_bnd scr 61 2 5 [.ref 0, .int x1, .int x2] [] (p_ev none 71 0 [.ref 0, .int s0] [] w)) ∧
  (∀ (scr : pX) (w : pW) (x1 : Int32) (x2 : Int32), p_ev scr 61 5 [.ref 0, .int x1, .int x2] [] w = p_ev scr 61 6 [.ref 0, .int x1, .int x2] [.ref 0] w) ∧
  (∀ (scr : pX) (w : pW) (x1 : Int32) (x2 : Int32), p_ev scr 61 6 [.ref 0, .int x1, .int x2] [.ref 0] w = p_ev scr 61 7 [.ref 0, .int x1, .int x2] [.int x2, .ref 0] w) ∧
  (∀ (scr : pX) (w : pW) (x1 : Int32) (x2 : Int32) (s0 : Int32), p_ev scr 61 7 [.ref 0, .int x1, .int x2] [.int s0, .ref 0] w = p_bnd scr 61 7 10 [.ref 0, .int x1, .int x2] [] (p_ev none 77 0 [.ref 0, .int s0] [] w)) ∧
  (∀ (scr : pX) (w : pW) (x1 : Int32) (x2 : Int32), p_ev scr 61 10 [.ref 0, .int x1, .int x2] [] w = p_ev scr 61 11 [.ref 0, .int x1, .int x2] [.ref 0] w) ∧
  (∀ (scr : pX) (w : pW) (x1 : Int32) (x2 : Int32), p_ev scr 61 11 [.ref 0, .int x1, .int x2] [.ref 0] w = p_ev scr 61 12 [.ref 0, .int x1, .int x2] [.int x1, .ref 0] w) ∧
  (∀ (scr : pX) (w : pW) (x1 : Int32) (x2 : Int32) (s0 : Int32), p_ev scr 61 12 [.ref 0, .int x1, .int x2] [.int s0, .ref 0] w = p_bnd scr 61 12 15 [.ref 0, .int x1, .int x2] [] (p_ev none 72 0 [.ref 0, .int s0] [] w)) ∧
  (∀ (scr : pX) (w : pW) (x1 : Int32) (x2 : Int32), p_ev scr 61 15 [.ref 0, .int x1, .int x2] [] w = p_ev scr 61 16 [.ref 0, .int x1, .int x2] [.ref 0] w) ∧
  (∀ (scr : pX) (w : pW) (x1 : Int32) (x2 : Int32), p_ev scr 61 16 [.ref 0, .int x1, .int x2] [.ref 0] w = p_ev scr 61 17 [.ref 0, .int x1, .int x2] [.int x1, .ref 0] w) ∧
  (∀ (scr : pX) (w : pW) (x1 : Int32) (x2 : Int32) (s0 : Int32), p_ev scr 61 17 [.ref 0, .int x1, .int x2] [.int s0, .ref 0] w = p_ev scr 61 18 [.ref 0, .int x1, .int x2] [.int x2, .int s0, .ref 0] w) ∧
  (∀ (scr : pX) (w : pW) (x1 : Int32) (x2 : Int32) (s0 : Int32) (s1 : Int32), p_ev scr 61 18 [.ref 0, .int x1, .int x2] [.int s0, .int s1, .ref 0] w = p_ev scr 61 19 [.ref 0, .int x1, .int x2] [.int (nI 0), .int s0, .int s1, .ref 0] w) ∧
  (∀ (scr : pX) (w : pW) (x1 : Int32) (x2 : Int32) (s0 : Int32) (s1 : Int32) (s2 : Int32), p_ev scr 61 19 [.ref 0, .int x1, .int x2] [.int s0, .int s1, .int s2, .ref 0] w = p_bnd scr 61 19 22 [.ref 0, .int x1, .int x2] [] (p_ev none 88 0 [.ref 0, .int s2, .int s1, .int s0, p_U, p_U, p_U, p_U, p_U] [] w)) ∧
  (∀ (scr : pX) (w : pW) (x1 : Int32) (x2 : Int32) (s0 : Int32), p_ev scr 61 22 [.ref 0, .int x1, .int x2] [.int s0] w = some (.inl (some (.int s0)), w, 0)) :=
  ⟨fun _ _ _ _ => p_r (by decide +kernel : p_at 61 0 = some (.aload_n 0)) rfl,
  fun _ _ _ _ => p_r (by decide +kernel : p_at 61 1 = some (.iload_n 1)) rfl,
  fun _ _ _ _ _ => p_rcv (nl := 2) (by decide +kernel : p_at 61 2 = some (.invokevirtual 95)) (by decide +kernel : p_inv (p_own 61) 95 = some (1, 71, 2)) (by decide +kernel) (rfl : p_ob 0 = some (.inr (4, [some 1, some 2, some 4, some 3, some 5, some 6, some 7, some 19]))) rfl rfl (Nat.le_of_ble_eq_true rfl) (Nat.le_of_ble_eq_true rfl) (Nat.le_of_ble_eq_true rfl) rfl,
  fun _ _ _ _ => p_r (by decide +kernel : p_at 61 5 = some (.aload_n 0)) rfl,
  fun _ _ _ _ => p_r (by decide +kernel : p_at 61 6 = some (.iload_n 2)) rfl,
  fun _ _ _ _ _ => p_rcv (nl := 2) (by decide +kernel : p_at 61 7 = some (.invokevirtual 165)) (by decide +kernel : p_inv (p_own 61) 165 = some (1, 77, 2)) (by decide +kernel) (rfl : p_ob 0 = some (.inr (4, [some 1, some 2, some 4, some 3, some 5, some 6, some 7, some 19]))) rfl rfl (Nat.le_of_ble_eq_true rfl) (Nat.le_of_ble_eq_true rfl) (Nat.le_of_ble_eq_true rfl) rfl,
  fun _ _ _ _ => p_r (by decide +kernel : p_at 61 10 = some (.aload_n 0)) rfl,
  fun _ _ _ _ => p_r (by decide +kernel : p_at 61 11 = some (.iload_n 1)) rfl,
  fun _ _ _ _ _ => p_rcv (nl := 2) (by decide +kernel : p_at 61 12 = some (.invokevirtual 147)) (by decide +kernel : p_inv (p_own 61) 147 = some (1, 72, 2)) (by decide +kernel) (rfl : p_ob 0 = some (.inr (4, [some 1, some 2, some 4, some 3, some 5, some 6, some 7, some 19]))) rfl rfl (Nat.le_of_ble_eq_true rfl) (Nat.le_of_ble_eq_true rfl) (Nat.le_of_ble_eq_true rfl) rfl,
  fun _ _ _ _ => p_r (by decide +kernel : p_at 61 15 = some (.aload_n 0)) rfl,
  fun _ _ _ _ => p_r (by decide +kernel : p_at 61 16 = some (.iload_n 1)) rfl,
  fun _ _ _ _ _ => p_r (by decide +kernel : p_at 61 17 = some (.iload_n 2)) rfl,
  fun _ _ _ _ _ _ => p_r (by decide +kernel : p_at 61 18 = some (.iconst 0)) rfl,
  fun _ _ _ _ _ _ _ => p_rcv (nl := 9) (by decide +kernel : p_at 61 19 = some (.invokevirtual 168)) (by decide +kernel : p_inv (p_own 61) 168 = some (1, 88, 4)) (by decide +kernel) (rfl : p_ob 0 = some (.inr (4, [some 1, some 2, some 4, some 3, some 5, some 6, some 7, some 19]))) rfl rfl (Nat.le_of_ble_eq_true rfl) (Nat.le_of_ble_eq_true rfl) (Nat.le_of_ble_eq_true rfl) rfl,
  fun _ _ _ _ _ => p_riret (by decide +kernel : p_at 61 22 = some (.ireturn)) (by decide +kernel)⟩
-- 62: soft
theorem M62 :
  (∀ (scr : pX) (w : pW) (x1 : Int32) (x2 : Int32), p_ev scr 62 0 [.ref 0, .int x1, .int x2] [] w = p_ev scr 62 1 [.ref 0, .int x1, .int x2] [.ref 0] w) ∧
  (∀ (scr : pX) (w : pW) (x1 : Int32) (x2 : Int32), p_ev scr 62 1 [.ref 0, .int x1, .int x2] [.ref 0] w = p_ev scr 62 2 [.ref 0, .int x1, .int x2] [.int x1, .ref 0] w) ∧
  (∀ (scr : pX) (w : pW) (x1 : Int32) (x2 : Int32) (s0 : Int32), p_ev scr 62 2 [.ref 0, .int x1, .int x2] [.int s0, .ref 0] w = p_bnd scr 62 2 5 [.ref 0, .int x1, .int x2] [] (p_ev none 71 0 [.ref 0, .int s0] [] w)) ∧
  (∀ (scr : pX) (w : pW) (x1 : Int32) (x2 : Int32), p_ev scr 62 5 [.ref 0, .int x1, .int x2] [] w = p_ev scr 62 6 [.ref 0, .int x1, .int x2] [.ref 0] w) ∧
  (∀ (scr : pX) (w : pW) (x1 : Int32) (x2 : Int32), p_ev scr 62 6 [.ref 0, .int x1, .int x2] [.ref 0] w = p_ev scr 62 7 [.ref 0, .int x1, .int x2] [.int x2, .ref 0] w) ∧
  (∀ (scr : pX) (w : pW) (x1 : Int32) (x2 : Int32) (s0 : Int32), p_ev scr 62 7 [.ref 0, .int x1, .int x2] [.int s0, .ref 0] w = p_bnd scr 62 7 10 [.ref 0, .int x1, .int x2] [] (p_ev none 77 0 [.ref 0, .int s0] [] w)) ∧
  (∀ (scr : pX) (w : pW) (x1 : Int32) (x2 : Int32), p_ev scr 62 10 [.ref 0, .int x1, .int x2] [] w = p_ev scr 62 11 [.ref 0, .int x1, .int x2] [.ref 0] w) ∧
  (∀ (scr : pX) (w : pW) (x1 : Int32) (x2 : Int32), p_ev scr 62 11 [.ref 0, .int x1, .int x2] [.ref 0] w = p_ev scr 62 12 [.ref 0, .int x1, .int x2] [.int x1, .ref 0] w) ∧
  (∀ (scr : pX) (w : pW) (x1 : Int32) (x2 : Int32) (s0 : Int32), p_ev scr 62 12 [.ref 0, .int x1, .int x2] [.int s0, .ref 0] w = p_bnd scr 62 12 15 [.ref 0, .int x1, .int x2] [] (p_ev none 72 0 [.ref 0, .int s0] [] w)) ∧
  (∀ (scr : pX) (w : pW) (x1 : Int32) (x2 : Int32), p_ev scr 62 15 [.ref 0, .int x1, .int x2] [] w = p_ev scr 62 16 [.ref 0, .int x1, .int x2] [.ref 0] w) ∧
  (∀ (scr : pX) (w : pW) (x1 : Int32) (x2 : Int32), p_ev scr 62 16 [.ref 0, .int x1, .int x2] [.ref 0] w = p_ev scr 62 17 [.ref 0, .int x1, .int x2] [.int x1, .ref 0] w) ∧
  (∀ (scr : pX) (w : pW) (x1 : Int32) (x2 : Int32) (s0 : Int32), p_ev scr 62 17 [.ref 0, .int x1, .int x2] [.int s0, .ref 0] w = p_ev scr 62 18 [.ref 0, .int x1, .int x2] [.int x2, .int s0, .ref 0] w) ∧
  (∀ (scr : pX) (w : pW) (x1 : Int32) (x2 : Int32) (s0 : Int32) (s1 : Int32), p_ev scr 62 18 [.ref 0, .int x1, .int x2] [.int s0, .int s1, .ref 0] w = p_ev scr 62 19 [.ref 0, .int x1, .int x2] [.int x2, .int s0, .int s1, .ref 0] w) ∧
  (∀ (scr : pX) (w : pW) (x1 : Int32) (x2 : Int32) (s0 : Int32) (s1 : Int32) (s2 : Int32), p_ev scr 62 19 [.ref 0, .int x1, .int x2] [.int s0, .int s1, .int s2, .ref 0] w = p_bnd scr 62 19 22 [.ref 0, .int x1, .int x2] [] (p_ev none 88 0 [.ref 0, .int s2, .int s1, .int s0, p_U, p_U, p_U, p_U, p_U] [] w)) ∧
  (∀ (scr : pX) (w : pW) (x1 : Int32) (x2 : Int32) (s0 : Int32), p_ev scr 62 22 [.ref 0, .int x1, .int x2] [.int s0] w = some (.inl (some (.int s0)), w, 0)) :=
  ⟨fun _ _ _ _ => p_r (by decide +kernel : p_at 62 0 = some (.aload_n 0)) rfl,
  fun _ _ _ _ => p_r (by decide +kernel : p_at 62 1 = some (.iload_n 1)) rfl,
  fun _ _ _ _ _ => p_rcv (nl := 2) (by decide +kernel : p_at 62 2 = some (.invokevirtual 95)) (by decide +kernel : p_inv (p_own 62) 95 = some (1, 71, 2)) (by decide +kernel) (rfl : p_ob 0 = some (.inr (4, [some 1, some 2, some 4, some 3, some 5, some 6, some 7, some 19]))) rfl rfl (Nat.le_of_ble_eq_true rfl) (Nat.le_of_ble_eq_true rfl) (Nat.le_of_ble_eq_true rfl) rfl,
  fun _ _ _ _ => p_r (by decide +kernel : p_at 62 5 = some (.aload_n 0)) rfl,
  fun _ _ _ _ => p_r (by decide +kernel : p_at 62 6 = some (.iload_n 2)) rfl,
  fun _ _ _ _ _ => p_rcv (nl := 2) (by decide +kernel : p_at 62 7 = some (.invokevirtual 165)) (by decide +kernel : p_inv (p_own 62) 165 = some (1, 77, 2)) (by decide +kernel) (rfl : p_ob 0 = some (.inr (4, [some 1, some 2, some 4, some 3, some 5, some 6, some 7, some 19]))) rfl rfl (Nat.le_of_ble_eq_true rfl) (Nat.le_of_ble_eq_true rfl) (Nat.le_of_ble_eq_true rfl) rfl,
  fun _ _ _ _ => p_r (by decide +kernel : p_at 62 10 = some (.aload_n 0)) rfl,
  fun _ _ _ _ => p_r (by decide +kernel : p_at 62 11 = some (.iload_n 1)) rfl,
  fun _ _ _ _ _ => p_rcv (nl := 2) (by decide +kernel : p_at 62 12 = some (.invokevirtual 147)) (by decide +kernel : p_inv (p_own 62) 147 = some (1, 72, 2)) (by decide +kernel) (rfl : p_ob 0 = some (.inr (4, [some 1, some 2, some 4, some 3, some 5, some 6, some 7, some 19]))) rfl rfl (Nat.le_of_ble_eq_true rfl) (Nat.le_of_ble_eq_true rfl) (Nat.le_of_ble_eq_true rfl) rfl,
  fun _ _ _ _ => p_r (by decide +kernel : p_at 62 15 = some (.aload_n 0)) rfl,
  fun _ _ _ _ => p_r (by decide +kernel : p_at 62 16 = some (.iload_n 1)) rfl,
  fun _ _ _ _ _ => p_r (by decide +kernel : p_at 62 17 = some (.iload_n 2)) rfl,
  fun _ _ _ _ _ _ => p_r (by decide +kernel : p_at 62 18 = some (.iload_n 2)) rfl,
  fun _ _ _ _ _ _ _ => p_rcv (nl := 9) (by decide +kernel : p_at 62 19 = some (.invokevirtual 168)) (by decide +kernel : p_inv (p_own 62) 168 = some (1, 88, 4)) (by decide +kernel) (rfl : p_ob 0 = some (.inr (4, [some 1, some 2, some 4, some 3, some 5, some 6, some 7, some 19]))) rfl rfl (Nat.le_of_ble_eq_true rfl) (Nat.le_of_ble_eq_true rfl) (Nat.le_of_ble_eq_true rfl) rfl,
  fun _ _ _ _ _ => p_riret (by decide +kernel : p_at 62 22 = some (.ireturn)) (by decide +kernel)⟩
-- 63: risk
theorem M63 :
  (∀ (scr : pX) (w : pW) (x1 : Int32) (x2 : Int32) (x3 : Int32), p_ev scr 63 0 [.ref 0, .int x1, .int x2, .int x3] [] w = p_ev scr 63 1 [.ref 0, .int x1, .int x2, .int x3] [.ref 0] w) ∧
  (∀ (scr : pX) (w : pW) (x1 : Int32) (x2 : Int32) (x3 : Int32), p_ev scr 63 1 [.ref 0, .int x1, .int x2, .int x3] [.ref 0] w = p_ev scr 63 2 [.ref 0, .int x1, .int x2, .int x3] [.int x1, .ref 0] w) ∧
  (∀ (scr : pX) (w : pW) (x1 : Int32) (x2 : Int32) (x3 : Int32) (s0 : Int32), p_ev scr 63 2 [.ref 0, .int x1, .int x2, .int x3] [.int s0, .ref 0] w = p_bnd scr 63 2 5 [.ref 0, .int x1, .int x2, .int x3] [] (p_ev none 71 0 [.ref 0, .int s0] [] w)) ∧
  (∀ (scr : pX) (w : pW) (x1 : Int32) (x2 : Int32) (x3 : Int32), p_ev scr 63 5 [.ref 0, .int x1, .int x2, .int x3] [] w = p_ev scr 63 6 [.ref 0, .int x1, .int x2, .int x3] [.ref 0] w) ∧
  (∀ (scr : pX) (w : pW) (x1 : Int32) (x2 : Int32) (x3 : Int32), p_ev scr 63 6 [.ref 0, .int x1, .int x2, .int x3] [.ref 0] w = p_ev scr 63 7 [.ref 0, .int x1, .int x2, .int x3] [.int x2, .ref 0] w) ∧
  (∀ (scr : pX) (w : pW) (x1 : Int32) (x2 : Int32) (x3 : Int32) (s0 : Int32), p_ev scr 63 7 [.ref 0, .int x1, .int x2, .int x3] [.int s0, .ref 0] w = p_bnd scr 63 7 10 [.ref 0, .int x1, .int x2, .int x3] [] (p_ev none 78 0 [.ref 0, .int s0] [] w)) ∧
  (∀ (scr : pX) (w : pW) (x1 : Int32) (x2 : Int32) (x3 : Int32), p_ev scr 63 10 [.ref 0, .int x1, .int x2, .int x3] [] w = p_ev scr 63 11 [.ref 0, .int x1, .int x2, .int x3] [.ref 0] w) ∧
  (∀ (scr : pX) (w : pW) (x1 : Int32) (x2 : Int32) (x3 : Int32), p_ev scr 63 11 [.ref 0, .int x1, .int x2, .int x3] [.ref 0] w = p_ev scr 63 12 [.ref 0, .int x1, .int x2, .int x3] [.int x3, .ref 0] w) ∧
  (∀ (scr : pX) (w : pW) (x1 : Int32) (x2 : Int32) (x3 : Int32) (s0 : Int32), p_ev scr 63 12 [.ref 0, .int x1, .int x2, .int x3] [.int s0, .ref 0] w = p_bnd scr 63 12 15 [.ref 0, .int x1, .int x2, .int x3] [] (p_ev none 77 0 [.ref 0, .int s0] [] w)) ∧
  (∀ (scr : pX) (w : pW) (x1 : Int32) (x2 : Int32) (x3 : Int32), p_ev scr 63 15 [.ref 0, .int x1, .int x2, .int x3] [] w = p_ev scr 63 16 [.ref 0, .int x1, .int x2, .int x3] [.ref 0] w) ∧
  (∀ (scr : pX) (w : pW) (x1 : Int32) (x2 : Int32) (x3 : Int32), p_ev scr 63 16 [.ref 0, .int x1, .int x2, .int x3] [.ref 0] w = p_ev scr 63 17 [.ref 0, .int x1, .int x2, .int x3] [.int x1, .ref 0] w) ∧
  (∀ (scr : pX) (w : pW) (x1 : Int32) (x2 : Int32) (x3 : Int32) (s0 : Int32), p_ev scr 63 17 [.ref 0, .int x1, .int x2, .int x3] [.int s0, .ref 0] w = p_bnd scr 63 17 20 [.ref 0, .int x1, .int x2, .int x3] [] (p_ev none 72 0 [.ref 0, .int s0] [] w)) ∧
  (∀ (scr : pX) (w : pW) (x1 : Int32) (x2 : Int32) (x3 : Int32), p_ev scr 63 20 [.ref 0, .int x1, .int x2, .int x3] [] w = p_ev scr 63 21 [.ref 0, .int x1, .int x2, .int x3] [.ref 0] w) ∧
  (∀ (scr : pX) (w : pW) (x1 : Int32) (x2 : Int32) (x3 : Int32), p_ev scr 63 21 [.ref 0, .int x1, .int x2, .int x3] [.ref 0] w = p_ev scr 63 22 [.ref 0, .int x1, .int x2, .int x3] [.int x1, .ref 0] w) ∧
  (∀ (scr : pX) (w : pW) (x1 : Int32) (x2 : Int32) (x3 : Int32) (s0 : Int32), p_ev scr 63 22 [.ref 0, .int x1, .int x2, .int x3] [.int s0, .ref 0] w = p_ev scr 63 23 [.ref 0, .int x1, .int x2, .int x3] [.int x2, .int s0, .ref 0] w) ∧
  (∀ (scr : pX) (w : pW) (x1 : Int32) (x2 : Int32) (x3 : Int32) (s0 : Int32) (s1 : Int32), p_ev scr 63 23 [.ref 0, .int x1, .int x2, .int x3] [.int s0, .int s1, .ref 0] w = p_ev scr 63 24 [.ref 0, .int x1, .int x2, .int x3] [.int x3, .int s0, .int s1, .ref 0] w) ∧
  (∀ (scr : pX) (w : pW) (x1 : Int32) (x2 : Int32) (x3 : Int32) (s0 : Int32) (s1 : Int32) (s2 : Int32), p_ev scr 63 24 [.ref 0, .int x1, .int x2, .int x3] [.int s0, .int s1, .int s2, .ref 0] w = p_ev scr 63 25 [.ref 0, .int x1, .int x2, .int x3] [.long s0.toInt64, .int s1, .int s2, .ref 0] w) ∧
  (∀ (scr : pX) (w : pW) (x1 : Int32) (x2 : Int32) (x3 : Int32) (t0 : Int64) (s1 : Int32) (s2 : Int32), p_ev scr 63 25 [.ref 0, .int x1, .int x2, .int x3] [.long t0, .int s1, .int s2, .ref 0] w = p_bnd scr 63 25 28 [.ref 0, .int x1, .int x2, .int x3] [] (p_ev none 89 0 [.ref 0, .int s2, .int s1, .long t0, p_U, p_U, p_U, p_U, p_U, p_U, p_U, p_U, p_U, p_U, p_U] [] w)) ∧
  (∀ (scr : pX) (w : pW) (x1 : Int32) (x2 : Int32) (x3 : Int32) (t0 : Int64), p_ev scr 63 28 [.ref 0, .int x1, .int x2, .int x3] [.long t0] w = some (.inl (some (.long t0)), w, 0)) :=
  ⟨fun _ _ _ _ _ => p_r (by decide +kernel : p_at 63 0 = some (.aload_n 0)) rfl,
  fun _ _ _ _ _ => p_r (by decide +kernel : p_at 63 1 = some (.iload_n 1)) rfl,
  fun _ _ _ _ _ _ => p_rcv (nl := 2) (by decide +kernel : p_at 63 2 = some (.invokevirtual 95)) (by decide +kernel : p_inv (p_own 63) 95 = some (1, 71, 2)) (by decide +kernel) (rfl : p_ob 0 = some (.inr (4, [some 1, some 2, some 4, some 3, some 5, some 6, some 7, some 19]))) rfl rfl (Nat.le_of_ble_eq_true rfl) (Nat.le_of_ble_eq_true rfl) (Nat.le_of_ble_eq_true rfl) rfl,
  fun _ _ _ _ _ => p_r (by decide +kernel : p_at 63 5 = some (.aload_n 0)) rfl,
  fun _ _ _ _ _ => p_r (by decide +kernel : p_at 63 6 = some (.iload_n 2)) rfl,
  fun _ _ _ _ _ _ => p_rcv (nl := 2) (by decide +kernel : p_at 63 7 = some (.invokevirtual 172)) (by decide +kernel : p_inv (p_own 63) 172 = some (1, 78, 2)) (by decide +kernel) (rfl : p_ob 0 = some (.inr (4, [some 1, some 2, some 4, some 3, some 5, some 6, some 7, some 19]))) rfl rfl (Nat.le_of_ble_eq_true rfl) (Nat.le_of_ble_eq_true rfl) (Nat.le_of_ble_eq_true rfl) rfl,
  fun _ _ _ _ _ => p_r (by decide +kernel : p_at 63 10 = some (.aload_n 0)) rfl,
  fun _ _ _ _ _ => p_r (by decide +kernel : p_at 63 11 = some (.iload_n 3)) rfl,
  fun _ _ _ _ _ _ => p_rcv (nl := 2) (by decide +kernel : p_at 63 12 = some (.invokevirtual 165)) (by decide +kernel : p_inv (p_own 63) 165 = some (1, 77, 2)) (by decide +kernel) (rfl : p_ob 0 = some (.inr (4, [some 1, some 2, some 4, some 3, some 5, some 6, some 7, some 19]))) rfl rfl (Nat.le_of_ble_eq_true rfl) (Nat.le_of_ble_eq_true rfl) (Nat.le_of_ble_eq_true rfl) rfl,
  fun _ _ _ _ _ => p_r (by decide +kernel : p_at 63 15 = some (.aload_n 0)) rfl,
  fun _ _ _ _ _ => p_r (by decide +kernel : p_at 63 16 = some (.iload_n 1)) rfl,
  fun _ _ _ _ _ _ => p_rcv (nl := 2) (by decide +kernel : p_at 63 17 = some (.invokevirtual 147)) (by decide +kernel : p_inv (p_own 63) 147 = some (1, 72, 2)) (by decide +kernel) (rfl : p_ob 0 = some (.inr (4, [some 1, some 2, some 4, some 3, some 5, some 6, some 7, some 19]))) rfl rfl (Nat.le_of_ble_eq_true rfl) (Nat.le_of_ble_eq_true rfl) (Nat.le_of_ble_eq_true rfl) rfl,
  fun _ _ _ _ _ => p_r (by decide +kernel : p_at 63 20 = some (.aload_n 0)) rfl,
  fun _ _ _ _ _ => p_r (by decide +kernel : p_at 63 21 = some (.iload_n 1)) rfl,
  fun _ _ _ _ _ _ => p_r (by decide +kernel : p_at 63 22 = some (.iload_n 2)) rfl,
  fun _ _ _ _ _ _ _ => p_r (by decide +kernel : p_at 63 23 = some (.iload_n 3)) rfl,
  fun _ _ _ _ _ _ _ _ => p_r (by decide +kernel : p_at 63 24 = some (.i2l)) rfl,
  fun _ _ _ _ _ _ _ _ => p_rcv (nl := 15) (by decide +kernel : p_at 63 25 = some (.invokevirtual 175)) (by decide +kernel : p_inv (p_own 63) 175 = some (1, 89, 4)) (by decide +kernel) (rfl : p_ob 0 = some (.inr (4, [some 1, some 2, some 4, some 3, some 5, some 6, some 7, some 19]))) rfl rfl (Nat.le_of_ble_eq_true rfl) (Nat.le_of_ble_eq_true rfl) (Nat.le_of_ble_eq_true rfl) rfl,
  fun _ _ _ _ _ _ => p_rlret (by decide +kernel : p_at 63 28 = some (.lreturn)) (by decide +kernel)⟩
-- 64: bestThreshold
theorem M64 :
  (∀ (scr : pX) (w : pW) (x1 : Int32) (x2 : Int32), p_ev scr 64 0 [.ref 0, .int x1, .int x2, p_U, p_U, p_U, p_U, p_U, p_U, p_U, p_U, p_U, p_U] [] w = p_ev scr 64 1 [.ref 0, .int x1, .int x2, p_U, p_U, p_U, p_U, p_U, p_U, p_U, p_U, p_U, p_U] [.ref 0] w) ∧
  (∀ (scr : pX) (w : pW) (x1 : Int32) (x2 : Int32), p_ev scr 64 1 [.ref 0, .int x1, .int x2, p_U, p_U, p_U, p_U, p_U, p_U, p_U, p_U, p_U, p_U] [.ref 0] w = p_ev scr 64 2 [.ref 0, .int x1, .int x2, p_U, p_U, p_U, p_U, p_U, p_U, p_U, p_U, p_U, p_U] [.int x1, .ref 0] w) ∧
  (∀ (scr : pX) (w : pW) (x1 : Int32) (x2 : Int32) (s0 : Int32), p_ev scr 64 2 [.ref 0, .int x1, .int x2, p_U, p_U, p_U, p_U, p_U, p_U, p_U, p_U, p_U, p_U] [.int s0, .ref 0] w = p_bnd scr 64 2 5 [.ref 0, .int x1, .int x2, p_U, p_U, p_U, p_U, p_U, p_U, p_U, p_U, p_U, p_U] [] (p_ev none 71 0 [.ref 0, .int s0] [] w)) ∧
  (∀ (scr : pX) (w : pW) (x1 : Int32) (x2 : Int32), p_ev scr 64 5 [.ref 0, .int x1, .int x2, p_U, p_U, p_U, p_U, p_U, p_U, p_U, p_U, p_U, p_U] [] w = p_ev scr 64 6 [.ref 0, .int x1, .int x2, p_U, p_U, p_U, p_U, p_U, p_U, p_U, p_U, p_U, p_U] [.ref 0] w) ∧
  (∀ (scr : pX) (w : pW) (x1 : Int32) (x2 : Int32), p_ev scr 64 6 [.ref 0, .int x1, .int x2, p_U, p_U, p_U, p_U, p_U, p_U, p_U, p_U, p_U, p_U] [.ref 0] w = p_ev scr 64 7 [.ref 0, .int x1, .int x2, p_U, p_U, p_U, p_U, p_U, p_U, p_U, p_U, p_U, p_U] [.int x2, .ref 0] w) ∧
  (∀ (scr : pX) (w : pW) (x1 : Int32) (x2 : Int32) (s0 : Int32), p_ev scr 64 7 [.ref 0, .int x1, .int x2, p_U, p_U, p_U, p_U, p_U, p_U, p_U, p_U, p_U, p_U] [.int s0, .ref 0] w = p_bnd scr 64 7 10 [.ref 0, .int x1, .int x2, p_U, p_U, p_U, p_U, p_U, p_U, p_U, p_U, p_U, p_U] [] (p_ev none 78 0 [.ref 0, .int s0] [] w)) ∧
  (∀ (scr : pX) (w : pW) (x1 : Int32) (x2 : Int32), p_ev scr 64 10 [.ref 0, .int x1, .int x2, p_U, p_U, p_U, p_U, p_U, p_U, p_U, p_U, p_U, p_U] [] w = p_ev scr 64 11 [.ref 0, .int x1, .int x2, p_U, p_U, p_U, p_U, p_U, p_U, p_U, p_U, p_U, p_U] [.ref 0] w) ∧
  (∀ (scr : pX) (w : pW) (x1 : Int32) (x2 : Int32), p_ev scr 64 11 [.ref 0, .int x1, .int x2, p_U, p_U, p_U, p_U, p_U, p_U, p_U, p_U, p_U, p_U] [.ref 0] w = p_ev scr 64 12 [.ref 0, .int x1, .int x2, p_U, p_U, p_U, p_U, p_U, p_U, p_U, p_U, p_U, p_U] [.int x1, .ref 0] w) ∧
  (∀ (scr : pX) (w : pW) (x1 : Int32) (x2 : Int32) (s0 : Int32), p_ev scr 64 12 [.ref 0, .int x1, .int x2, p_U, p_U, p_U, p_U, p_U, p_U, p_U, p_U, p_U, p_U] [.int s0, .ref 0] w = p_bnd scr 64 12 15 [.ref 0, .int x1, .int x2, p_U, p_U, p_U, p_U, p_U, p_U, p_U, p_U, p_U, p_U] [] (p_ev none 72 0 [.ref 0, .int s0] [] w)) ∧
  (∀ (scr : pX) (w : pW) (x1 : Int32) (x2 : Int32), p_ev scr 64 15 [.ref 0, .int x1, .int x2, p_U, p_U, p_U, p_U, p_U, p_U, p_U, p_U, p_U, p_U] [] w = p_ev scr 64 16 [.ref 0, .int x1, .int x2, p_U, p_U, p_U, p_U, p_U, p_U, p_U, p_U, p_U, p_U] [.long (lN 0)] w) ∧
  (∀ (scr : pX) (w : pW) (x1 : Int32) (x2 : Int32) (t0 : Int64), p_ev scr 64 16 [.ref 0, .int x1, .int x2, p_U, p_U, p_U, p_U, p_U, p_U, p_U, p_U, p_U, p_U] [.long t0] w = p_ev scr 64 17 [.ref 0, .int x1, .int x2, .long t0, p_U, p_U, p_U, p_U, p_U, p_U, p_U, p_U, p_U] [] w) ∧
  (∀ (scr : pX) (w : pW) (x1 : Int32) (x2 : Int32) (y3 : Int64), p_ev scr 64 17 [.ref 0, .int x1, .int x2, .long y3, p_U, p_U, p_U, p_U, p_U, p_U, p_U, p_U, p_U] [] w = p_ev scr 64 18 [.ref 0, .int x1, .int x2, .long y3, p_U, p_U, p_U, p_U, p_U, p_U, p_U, p_U, p_U] [.ref 0] w) ∧
  (∀ (scr : pX) (w : pW) (x1 : Int32) (x2 : Int32) (y3 : Int64), p_ev scr 64 18 [.ref 0, .int x1, .int x2, .long y3, p_U, p_U, p_U, p_U, p_U, p_U, p_U, p_U, p_U] [.ref 0] w = p_ev scr 64 19 [.ref 0, .int x1, .int x2, .long y3, p_U, p_U, p_U, p_U, p_U, p_U, p_U, p_U, p_U] [.int x1, .ref 0] w) ∧
  (∀ (scr : pX) (w : pW) (x1 : Int32) (x2 : Int32) (y3 : Int64) (s0 : Int32), p_ev scr 64 19 [.ref 0, .int x1, .int x2, .long y3, p_U, p_U, p_U, p_U, p_U, p_U, p_U, p_U, p_U] [.int s0, .ref 0] w = p_ev scr 64 20 [.ref 0, .int x1, .int x2, .long y3, p_U, p_U, p_U, p_U, p_U, p_U, p_U, p_U, p_U] [.int x2, .int s0, .ref 0] w) ∧
  (∀ (scr : pX) (w : pW) (x1 : Int32) (x2 : Int32) (y3 : Int64) (s0 : Int32) (s1 : Int32), p_ev scr 64 20 [.ref 0, .int x1, .int x2, .long y3, p_U, p_U, p_U, p_U, p_U, p_U, p_U, p_U, p_U] [.int s0, .int s1, .ref 0] w = p_ev scr 64 21 [.ref 0, .int x1, .int x2, .long y3, p_U, p_U, p_U, p_U, p_U, p_U, p_U, p_U, p_U] [.long (lN 0), .int s0, .int s1, .ref 0] w) ∧
  (∀ (scr : pX) (w : pW) (x1 : Int32) (x2 : Int32) (y3 : Int64) (t0 : Int64) (s1 : Int32) (s2 : Int32), p_ev scr 64 21 [.ref 0, .int x1, .int x2, .long y3, p_U, p_U, p_U, p_U, p_U, p_U, p_U, p_U, p_U] [.long t0, .int s1, .int s2, .ref 0] w = p_bnd scr 64 21 24 [.ref 0, .int x1, .int x2, .long y3, p_U, p_U, p_U, p_U, p_U, p_U, p_U, p_U, p_U] [] (p_ev none 89 0 [.ref 0, .int s2, .int s1, .long t0, p_U, p_U, p_U, p_U, p_U, p_U, p_U, p_U, p_U, p_U, p_U] [] w)) ∧
  (∀ (scr : pX) (w : pW) (x1 : Int32) (x2 : Int32) (y3 : Int64) (t0 : Int64), p_ev scr 64 24 [.ref 0, .int x1, .int x2, .long y3, p_U, p_U, p_U, p_U, p_U, p_U, p_U, p_U, p_U] [.long t0] w = p_ev scr 64 26 [.ref 0, .int x1, .int x2, .long y3, p_U, .long t0, p_U, p_U, p_U, p_U, p_U, p_U, p_U] [] w) ∧
  (∀ (scr : pX) (w : pW) (x1 : Int32) (x2 : Int32) (y3 : Int64) (y5 : Int64), p_ev scr 64 26 [.ref 0, .int x1, .int x2, .long y3, p_U, .long y5, p_U, p_U, p_U, p_U, p_U, p_U, p_U] [] w = p_ev scr 64 27 [.ref 0, .int x1, .int x2, .long y3, p_U, .long y5, p_U, p_U, p_U, p_U, p_U, p_U, p_U] [.ref 0] w) ∧
  (∀ (scr : pX) (w : pW) (x1 : Int32) (x2 : Int32) (y3 : Int64) (y5 : Int64), p_ev scr 64 27 [.ref 0, .int x1, .int x2, .long y3, p_U, .long y5, p_U, p_U, p_U, p_U, p_U, p_U, p_U] [.ref 0] w = p_ev scr 64 30 [.ref 0, .int x1, .int x2, .long y3, p_U, .long y5, p_U, p_U, p_U, p_U, p_U, p_U, p_U] [.ref 1] w) ∧
  (∀ (scr : pX) (w : pW) (x1 : Int32) (x2 : Int32) (y3 : Int64) (y5 : Int64), p_ev scr 64 30 [.ref 0, .int x1, .int x2, .long y3, p_U, .long y5, p_U, p_U, p_U, p_U, p_U, p_U, p_U] [.ref 1] w = p_ev scr 64 31 [.ref 0, .int x1, .int x2, .long y3, p_U, .long y5, p_U, p_U, p_U, p_U, p_U, p_U, p_U] [.int x1, .ref 1] w) ∧
  (∀ (scr : pX) (w : pW) (x1 : Int32) (x2 : Int32) (y3 : Int64) (y5 : Int64) (s0 : Int32), p_ev scr 64 31 [.ref 0, .int x1, .int x2, .long y3, p_U, .long y5, p_U, p_U, p_U, p_U, p_U, p_U, p_U] [.int s0, .ref 1] w = p_bnd scr 64 31 34 [.ref 0, .int x1, .int x2, .long y3, p_U, .long y5, p_U, p_U, p_U, p_U, p_U, p_U, p_U] [] (p_ev none 40 0 [.ref 1, .int s0] [] w)) ∧
  (∀ (scr : pX) (w : pW) (x1 : Int32) (x2 : Int32) (y3 : Int64) (y5 : Int64) (s0 : Int32), p_ev scr 64 34 [.ref 0, .int x1, .int x2, .long y3, p_U, .long y5, p_U, p_U, p_U, p_U, p_U, p_U, p_U] [.int s0] w = p_ev scr 64 35 [.ref 0, .int x1, .int x2, .long y3, p_U, .long y5, p_U, p_U, p_U, p_U, p_U, p_U, p_U] [.ref 0, .int s0] w) ∧
  (∀ (scr : pX) (w : pW) (x1 : Int32) (x2 : Int32) (y3 : Int64) (y5 : Int64) (s1 : Int32), p_ev scr 64 35 [.ref 0, .int x1, .int x2, .long y3, p_U, .long y5, p_U, p_U, p_U, p_U, p_U, p_U, p_U] [.ref 0, .int s1] w = p_ev scr 64 38 [.ref 0, .int x1, .int x2, .long y3, p_U, .long y5, p_U, p_U, p_U, p_U, p_U, p_U, p_U] [.ref 1, .int s1] w) ∧
  (∀ (scr : pX) (w : pW) (x1 : Int32) (x2 : Int32) (y3 : Int64) (y5 : Int64) (s1 : Int32), p_ev scr 64 38 [.ref 0, .int x1, .int x2, .long y3, p_U, .long y5, p_U, p_U, p_U, p_U, p_U, p_U, p_U] [.ref 1, .int s1] w = p_ev scr 64 39 [.ref 0, .int x1, .int x2, .long y3, p_U, .long y5, p_U, p_U, p_U, p_U, p_U, p_U, p_U] [.int x1, .ref 1, .int s1] w) ∧
  (∀ (scr : pX) (w : pW) (x1 : Int32) (x2 : Int32) (y3 : Int64) (y5 : Int64) (s0 : Int32) (s2 : Int32), p_ev scr 64 39 [.ref 0, .int x1, .int x2, .long y3, p_U, .long y5, p_U, p_U, p_U, p_U, p_U, p_U, p_U] [.int s0, .ref 1, .int s2] w = p_bnd scr 64 39 42 [.ref 0, .int x1, .int x2, .long y3, p_U, .long y5, p_U, p_U, p_U, p_U, p_U, p_U, p_U] [.int s2] (p_ev none 39 0 [.ref 1, .int s0] [] w)) ∧
  (∀ (scr : pX) (w : pW) (x1 : Int32) (x2 : Int32) (y3 : Int64) (y5 : Int64) (s0 : Int32) (s1 : Int32), p_ev scr 64 42 [.ref 0, .int x1, .int x2, .long y3, p_U, .long y5, p_U, p_U, p_U, p_U, p_U, p_U, p_U] [.int s0, .int s1] w = p_ev scr 64 43 [.ref 0, .int x1, .int x2, .long y3, p_U, .long y5, p_U, p_U, p_U, p_U, p_U, p_U, p_U] [.int (s1 + s0)] w) ∧
  (∀ (scr : pX) (w : pW) (x1 : Int32) (x2 : Int32) (y3 : Int64) (y5 : Int64) (s0 : Int32), p_ev scr 64 43 [.ref 0, .int x1, .int x2, .long y3, p_U, .long y5, p_U, p_U, p_U, p_U, p_U, p_U, p_U] [.int s0] w = p_ev scr 64 45 [.ref 0, .int x1, .int x2, .long y3, p_U, .long y5, p_U, .int s0, p_U, p_U, p_U, p_U, p_U] [] w) ∧
  (∀ (scr : pX) (w : pW) (x1 : Int32) (x2 : Int32) (y3 : Int64) (y5 : Int64) (x7 : Int32), p_ev scr 64 45 [.ref 0, .int x1, .int x2, .long y3, p_U, .long y5, p_U, .int x7, p_U, p_U, p_U, p_U, p_U] [] w = p_ev scr 64 46 [.ref 0, .int x1, .int x2, .long y3, p_U, .long y5, p_U, .int x7, p_U, p_U, p_U, p_U, p_U] [.ref 0] w) ∧
  (∀ (scr : pX) (w : pW) (x1 : Int32) (x2 : Int32) (y3 : Int64) (y5 : Int64) (x7 : Int32), p_ev scr 64 46 [.ref 0, .int x1, .int x2, .long y3, p_U, .long y5, p_U, .int x7, p_U, p_U, p_U, p_U, p_U] [.ref 0] w = p_ev scr 64 49 [.ref 0, .int x1, .int x2, .long y3, p_U, .long y5, p_U, .int x7, p_U, p_U, p_U, p_U, p_U] [.ref 1] w) ∧
  (∀ (scr : pX) (w : pW) (x1 : Int32) (x2 : Int32) (y3 : Int64) (y5 : Int64) (x7 : Int32), p_ev scr 64 49 [.ref 0, .int x1, .int x2, .long y3, p_U, .long y5, p_U, .int x7, p_U, p_U, p_U, p_U, p_U] [.ref 1] w = p_ev scr 64 50 [.ref 0, .int x1, .int x2, .long y3, p_U, .long y5, p_U, .int x7, p_U, p_U, p_U, p_U, p_U] [.int x1, .ref 1] w) ∧
  (∀ (scr : pX) (w : pW) (x1 : Int32) (x2 : Int32) (y3 : Int64) (y5 : Int64) (x7 : Int32) (s0 : Int32), p_ev scr 64 50 [.ref 0, .int x1, .int x2, .long y3, p_U, .long y5, p_U, .int x7, p_U, p_U, p_U, p_U, p_U] [.int s0, .ref 1] w = p_bnd scr 64 50 53 [.ref 0, .int x1, .int x2, .long y3, p_U, .long y5, p_U, .int x7, p_U, p_U, p_U, p_U, p_U] [] (p_ev none 40 0 [.ref 1, .int s0] [] w)) ∧
  (∀ (scr : pX) (w : pW) (x1 : Int32) (x2 : Int32) (y3 : Int64) (y5 : Int64) (x7 : Int32) (s0 : Int32), p_ev scr 64 53 [.ref 0, .int x1, .int x2, .long y3, p_U, .long y5, p_U, .int x7, p_U, p_U, p_U, p_U, p_U] [.int s0] w = p_ev scr 64 55 [.ref 0, .int x1, .int x2, .long y3, p_U, .long y5, p_U, .int x7, .int s0, p_U, p_U, p_U, p_U] [] w) ∧
  (∀ (scr : pX) (w : pW) (x1 : Int32) (x2 : Int32) (y3 : Int64) (y5 : Int64) (x7 : Int32) (x8 : Int32) (z9 : Value) (z11 : Value) (s0 : Int32), p_ev scr 64 57 [.ref 0, .int x1, .int x2, .long y3, p_U, .long y5, p_U, .int x7, .int x8, z9, p_U, z11, p_U] [.int s0] w = p_ev scr 64 59 [.ref 0, .int x1, .int x2, .long y3, p_U, .long y5, p_U, .int x7, .int x8, z9, p_U, z11, p_U] [.int x7, .int s0] w) ∧
  (∀ (scr : pX) (w : pW) (x1 : Int32) (x2 : Int32) (y3 : Int64) (y5 : Int64) (x7 : Int32) (x8 : Int32) (z9 : Value) (z11 : Value) (s0 : Int32) (s1 : Int32), p_ev scr 64 59 [.ref 0, .int x1, .int x2, .long y3, p_U, .long y5, p_U, .int x7, .int x8, z9, p_U, z11, p_U] [.int s0, .int s1] w = if s0 ≤ s1 then p_ev scr 64 128 [.ref 0, .int x1, .int x2, .long y3, p_U, .long y5, p_U, .int x7, .int x8, z9, p_U, z11, p_U] [] w else p_ev scr 64 62 [.ref 0, .int x1, .int x2, .long y3, p_U, .long y5, p_U, .int x7, .int x8, z9, p_U, z11, p_U] [] w) ∧
  (∀ (scr : pX) (w : pW) (x1 : Int32) (x2 : Int32) (y3 : Int64) (y5 : Int64) (x7 : Int32) (x8 : Int32) (z9 : Value) (z11 : Value), p_ev scr 64 62 [.ref 0, .int x1, .int x2, .long y3, p_U, .long y5, p_U, .int x7, .int x8, z9, p_U, z11, p_U] [] w = p_ev scr 64 63 [.ref 0, .int x1, .int x2, .long y3, p_U, .long y5, p_U, .int x7, .int x8, z9, p_U, z11, p_U] [.ref 0] w) ∧
  (∀ (scr : pX) (w : pW) (x1 : Int32) (x2 : Int32) (y3 : Int64) (y5 : Int64) (x7 : Int32) (x8 : Int32) (z9 : Value) (z11 : Value), p_ev scr 64 63 [.ref 0, .int x1, .int x2, .long y3, p_U, .long y5, p_U, .int x7, .int x8, z9, p_U, z11, p_U] [.ref 0] w = p_ev scr 64 66 [.ref 0, .int x1, .int x2, .long y3, p_U, .long y5, p_U, .int x7, .int x8, z9, p_U, z11, p_U] [.ref 4] w) ∧
  (∀ (scr : pX) (w : pW) (x1 : Int32) (x2 : Int32) (y3 : Int64) (y5 : Int64) (x7 : Int32) (x8 : Int32) (z9 : Value) (z11 : Value), p_ev scr 64 66 [.ref 0, .int x1, .int x2, .long y3, p_U, .long y5, p_U, .int x7, .int x8, z9, p_U, z11, p_U] [.ref 4] w = p_ev scr 64 68 [.ref 0, .int x1, .int x2, .long y3, p_U, .long y5, p_U, .int x7, .int x8, z9, p_U, z11, p_U] [.int x8, .ref 4] w) ∧
  (∀ (scr : pX) (w : pW) (x1 : Int32) (x2 : Int32) (y3 : Int64) (y5 : Int64) (x7 : Int32) (x8 : Int32) (z9 : Value) (z11 : Value) (s0 : Int32), p_ev scr 64 68 [.ref 0, .int x1, .int x2, .long y3, p_U, .long y5, p_U, .int x7, .int x8, z9, p_U, z11, p_U] [.int s0, .ref 4] w = p_bnd scr 64 68 71 [.ref 0, .int x1, .int x2, .long y3, p_U, .long y5, p_U, .int x7, .int x8, z9, p_U, z11, p_U] [] (p_ev none 26 0 [.ref 4, .int s0] [] w)) ∧
  (∀ (scr : pX) (w : pW) (x1 : Int32) (x2 : Int32) (y3 : Int64) (y5 : Int64) (x7 : Int32) (x8 : Int32) (z9 : Value) (z11 : Value) (t0 : Int64), p_ev scr 64 71 [.ref 0, .int x1, .int x2, .long y3, p_U, .long y5, p_U, .int x7, .int x8, z9, p_U, z11, p_U] [.long t0] w = p_ev scr 64 73 [.ref 0, .int x1, .int x2, .long y3, p_U, .long y5, p_U, .int x7, .int x8, .long t0, p_U, z11, p_U] [] w) ∧
  (∀ (scr : pX) (w : pW) (x1 : Int32) (x2 : Int32) (y3 : Int64) (y5 : Int64) (x7 : Int32) (x8 : Int32) (y9 : Int64) (z11 : Value), p_ev scr 64 73 [.ref 0, .int x1, .int x2, .long y3, p_U, .long y5, p_U, .int x7, .int x8, .long y9, p_U, z11, p_U] [] w = p_ev scr 64 75 [.ref 0, .int x1, .int x2, .long y3, p_U, .long y5, p_U, .int x7, .int x8, .long y9, p_U, z11, p_U] [.long y9] w) ∧
  (∀ (scr : pX) (w : pW) (x1 : Int32) (x2 : Int32) (y3 : Int64) (y5 : Int64) (x7 : Int32) (x8 : Int32) (y9 : Int64) (z11 : Value) (t0 : Int64), p_ev scr 64 75 [.ref 0, .int x1, .int x2, .long y3, p_U, .long y5, p_U, .int x7, .int x8, .long y9, p_U, z11, p_U] [.long t0] w = p_ev scr 64 78 [.ref 0, .int x1, .int x2, .long y3, p_U, .long y5, p_U, .int x7, .int x8, .long y9, p_U, z11, p_U] [.long (lN 100000), .long t0] w) ∧
  (∀ (scr : pX) (w : pW) (x1 : Int32) (x2 : Int32) (y3 : Int64) (y5 : Int64) (x7 : Int32) (x8 : Int32) (y9 : Int64) (z11 : Value) (t0 : Int64) (t1 : Int64), p_ev scr 64 78 [.ref 0, .int x1, .int x2, .long y3, p_U, .long y5, p_U, .int x7, .int x8, .long y9, p_U, z11, p_U] [.long t0, .long t1] w = p_ev scr 64 79 [.ref 0, .int x1, .int x2, .long y3, p_U, .long y5, p_U, .int x7, .int x8, .long y9, p_U, z11, p_U] [.int (lg_cmp t1 t0)] w) ∧
  (∀ (scr : pX) (w : pW) (x1 : Int32) (x2 : Int32) (y3 : Int64) (y5 : Int64) (x7 : Int32) (x8 : Int32) (y9 : Int64) (z11 : Value) (s0 : Int32), p_ev scr 64 79 [.ref 0, .int x1, .int x2, .long y3, p_U, .long y5, p_U, .int x7, .int x8, .long y9, p_U, z11, p_U] [.int s0] w = if nI 0 < s0 then p_ev scr 64 122 [.ref 0, .int x1, .int x2, .long y3, p_U, .long y5, p_U, .int x7, .int x8, .long y9, p_U, z11, p_U] [] w else p_ev scr 64 82 [.ref 0, .int x1, .int x2, .long y3, p_U, .long y5, p_U, .int x7, .int x8, .long y9, p_U, z11, p_U] [] w) ∧
  (∀ (scr : pX) (w : pW) (x1 : Int32) (x2 : Int32) (y3 : Int64) (y5 : Int64) (x7 : Int32) (x8 : Int32) (y9 : Int64) (z11 : Value), p_ev scr 64 82 [.ref 0, .int x1, .int x2, .long y3, p_U, .long y5, p_U, .int x7, .int x8, .long y9, p_U, z11, p_U] [] w = p_ev scr 64 83 [.ref 0, .int x1, .int x2, .long y3, p_U, .long y5, p_U, .int x7, .int x8, .long y9, p_U, z11, p_U] [.ref 0] w) ∧
  (∀ (scr : pX) (w : pW) (x1 : Int32) (x2 : Int32) (y3 : Int64) (y5 : Int64) (x7 : Int32) (x8 : Int32) (y9 : Int64) (z11 : Value), p_ev scr 64 83 [.ref 0, .int x1, .int x2, .long y3, p_U, .long y5, p_U, .int x7, .int x8, .long y9, p_U, z11, p_U] [.ref 0] w = p_ev scr 64 84 [.ref 0, .int x1, .int x2, .long y3, p_U, .long y5, p_U, .int x7, .int x8, .long y9, p_U, z11, p_U] [.int x1, .ref 0] w) ∧
  (∀ (scr : pX) (w : pW) (x1 : Int32) (x2 : Int32) (y3 : Int64) (y5 : Int64) (x7 : Int32) (x8 : Int32) (y9 : Int64) (z11 : Value) (s0 : Int32), p_ev scr 64 84 [.ref 0, .int x1, .int x2, .long y3, p_U, .long y5, p_U, .int x7, .int x8, .long y9, p_U, z11, p_U] [.int s0, .ref 0] w = p_ev scr 64 85 [.ref 0, .int x1, .int x2, .long y3, p_U, .long y5, p_U, .int x7, .int x8, .long y9, p_U, z11, p_U] [.int x2, .int s0, .ref 0] w) ∧
  (∀ (scr : pX) (w : pW) (x1 : Int32) (x2 : Int32) (y3 : Int64) (y5 : Int64) (x7 : Int32) (x8 : Int32) (y9 : Int64) (z11 : Value) (s0 : Int32) (s1 : Int32), p_ev scr 64 85 [.ref 0, .int x1, .int x2, .long y3, p_U, .long y5, p_U, .int x7, .int x8, .long y9, p_U, z11, p_U] [.int s0, .int s1, .ref 0] w = p_ev scr 64 87 [.ref 0, .int x1, .int x2, .long y3, p_U, .long y5, p_U, .int x7, .int x8, .long y9, p_U, z11, p_U] [.long y9, .int s0, .int s1, .ref 0] w) ∧
  (∀ (scr : pX) (w : pW) (x1 : Int32) (x2 : Int32) (y3 : Int64) (y5 : Int64) (x7 : Int32) (x8 : Int32) (y9 : Int64) (z11 : Value) (t0 : Int64) (s1 : Int32) (s2 : Int32), p_ev scr 64 87 [.ref 0, .int x1, .int x2, .long y3, p_U, .long y5, p_U, .int x7, .int x8, .long y9, p_U, z11, p_U] [.long t0, .int s1, .int s2, .ref 0] w = p_bnd scr 64 87 90 [.ref 0, .int x1, .int x2, .long y3, p_U, .long y5, p_U, .int x7, .int x8, .long y9, p_U, z11, p_U] [] (p_ev none 89 0 [.ref 0, .int s2, .int s1, .long t0, p_U, p_U, p_U, p_U, p_U, p_U, p_U, p_U, p_U, p_U, p_U] [] w)) ∧
  (∀ (scr : pX) (w : pW) (x1 : Int32) (x2 : Int32) (y3 : Int64) (y5 : Int64) (x7 : Int32) (x8 : Int32) (y9 : Int64) (z11 : Value) (t0 : Int64), p_ev scr 64 90 [.ref 0, .int x1, .int x2, .long y3, p_U, .long y5, p_U, .int x7, .int x8, .long y9, p_U, z11, p_U] [.long t0] w = p_ev scr 64 92 [.ref 0, .int x1, .int x2, .long y3, p_U, .long y5, p_U, .int x7, .int x8, .long y9, p_U, .long t0, p_U] [] w) ∧
  (∀ (scr : pX) (w : pW) (x1 : Int32) (x2 : Int32) (y3 : Int64) (y5 : Int64) (x7 : Int32) (x8 : Int32) (y9 : Int64) (y11 : Int64), p_ev scr 64 92 [.ref 0, .int x1, .int x2, .long y3, p_U, .long y5, p_U, .int x7, .int x8, .long y9, p_U, .long y11, p_U] [] w = p_ev scr 64 94 [.ref 0, .int x1, .int x2, .long y3, p_U, .long y5, p_U, .int x7, .int x8, .long y9, p_U, .long y11, p_U] [.long y11] w) ∧
  (∀ (scr : pX) (w : pW) (x1 : Int32) (x2 : Int32) (y3 : Int64) (y5 : Int64) (x7 : Int32) (x8 : Int32) (y9 : Int64) (y11 : Int64) (t0 : Int64), p_ev scr 64 94 [.ref 0, .int x1, .int x2, .long y3, p_U, .long y5, p_U, .int x7, .int x8, .long y9, p_U, .long y11, p_U] [.long t0] w = p_ev scr 64 96 [.ref 0, .int x1, .int x2, .long y3, p_U, .long y5, p_U, .int x7, .int x8, .long y9, p_U, .long y11, p_U] [.long y5, .long t0] w) ∧
  (∀ (scr : pX) (w : pW) (x1 : Int32) (x2 : Int32) (y3 : Int64) (y5 : Int64) (x7 : Int32) (x8 : Int32) (y9 : Int64) (y11 : Int64) (t0 : Int64) (t1 : Int64), p_ev scr 64 96 [.ref 0, .int x1, .int x2, .long y3, p_U, .long y5, p_U, .int x7, .int x8, .long y9, p_U, .long y11, p_U] [.long t0, .long t1] w = p_ev scr 64 97 [.ref 0, .int x1, .int x2, .long y3, p_U, .long y5, p_U, .int x7, .int x8, .long y9, p_U, .long y11, p_U] [.int (lg_cmp t1 t0)] w) ∧
  (∀ (scr : pX) (w : pW) (x1 : Int32) (x2 : Int32) (y3 : Int64) (y5 : Int64) (x7 : Int32) (x8 : Int32) (y9 : Int64) (y11 : Int64) (s0 : Int32), p_ev scr 64 97 [.ref 0, .int x1, .int x2, .long y3, p_U, .long y5, p_U, .int x7, .int x8, .long y9, p_U, .long y11, p_U] [.int s0] w = if s0 < nI 0 then p_ev scr 64 115 [.ref 0, .int x1, .int x2, .long y3, p_U, .long y5, p_U, .int x7, .int x8, .long y9, p_U, .long y11, p_U] [] w else p_ev scr 64 100 [.ref 0, .int x1, .int x2, .long y3, p_U, .long y5, p_U, .int x7, .int x8, .long y9, p_U, .long y11, p_U] [] w) ∧
  (∀ (scr : pX) (w : pW) (x1 : Int32) (x2 : Int32) (y3 : Int64) (y5 : Int64) (x7 : Int32) (x8 : Int32) (y9 : Int64) (y11 : Int64), p_ev scr 64 100 [.ref 0, .int x1, .int x2, .long y3, p_U, .long y5, p_U, .int x7, .int x8, .long y9, p_U, .long y11, p_U] [] w = p_ev scr 64 102 [.ref 0, .int x1, .int x2, .long y3, p_U, .long y5, p_U, .int x7, .int x8, .long y9, p_U, .long y11, p_U] [.long y11] w) ∧
  (∀ (scr : pX) (w : pW) (x1 : Int32) (x2 : Int32) (y3 : Int64) (y5 : Int64) (x7 : Int32) (x8 : Int32) (y9 : Int64) (y11 : Int64) (t0 : Int64), p_ev scr 64 102 [.ref 0, .int x1, .int x2, .long y3, p_U, .long y5, p_U, .int x7, .int x8, .long y9, p_U, .long y11, p_U] [.long t0] w = p_ev scr 64 104 [.ref 0, .int x1, .int x2, .long y3, p_U, .long y5, p_U, .int x7, .int x8, .long y9, p_U, .long y11, p_U] [.long y5, .long t0] w) ∧
  (∀ (scr : pX) (w : pW) (x1 : Int32) (x2 : Int32) (y3 : Int64) (y5 : Int64) (x7 : Int32) (x8 : Int32) (y9 : Int64) (y11 : Int64) (t0 : Int64) (t1 : Int64), p_ev scr 64 104 [.ref 0, .int x1, .int x2, .long y3, p_U, .long y5, p_U, .int x7, .int x8, .long y9, p_U, .long y11, p_U] [.long t0, .long t1] w = p_ev scr 64 105 [.ref 0, .int x1, .int x2, .long y3, p_U, .long y5, p_U, .int x7, .int x8, .long y9, p_U, .long y11, p_U] [.int (lg_cmp t1 t0)] w) ∧
  (∀ (scr : pX) (w : pW) (x1 : Int32) (x2 : Int32) (y3 : Int64) (y5 : Int64) (x7 : Int32) (x8 : Int32) (y9 : Int64) (y11 : Int64) (s0 : Int32), p_ev scr 64 105 [.ref 0, .int x1, .int x2, .long y3, p_U, .long y5, p_U, .int x7, .int x8, .long y9, p_U, .long y11, p_U] [.int s0] w = if ¬ s0 = nI 0 then p_ev scr 64 122 [.ref 0, .int x1, .int x2, .long y3, p_U, .long y5, p_U, .int x7, .int x8, .long y9, p_U, .long y11, p_U] [] w else p_ev scr 64 108 [.ref 0, .int x1, .int x2, .long y3, p_U, .long y5, p_U, .int x7, .int x8, .long y9, p_U, .long y11, p_U] [] w) ∧
  (∀ (scr : pX) (w : pW) (x1 : Int32) (x2 : Int32) (y3 : Int64) (y5 : Int64) (x7 : Int32) (x8 : Int32) (y9 : Int64) (y11 : Int64), p_ev scr 64 108 [.ref 0, .int x1, .int x2, .long y3, p_U, .long y5, p_U, .int x7, .int x8, .long y9, p_U, .long y11, p_U] [] w = p_ev scr 64 110 [.ref 0, .int x1, .int x2, .long y3, p_U, .long y5, p_U, .int x7, .int x8, .long y9, p_U, .long y11, p_U] [.long y9] w) ∧
  (∀ (scr : pX) (w : pW) (x1 : Int32) (x2 : Int32) (y3 : Int64) (y5 : Int64) (x7 : Int32) (x8 : Int32) (y9 : Int64) (y11 : Int64) (t0 : Int64), p_ev scr 64 110 [.ref 0, .int x1, .int x2, .long y3, p_U, .long y5, p_U, .int x7, .int x8, .long y9, p_U, .long y11, p_U] [.long t0] w = p_ev scr 64 111 [.ref 0, .int x1, .int x2, .long y3, p_U, .long y5, p_U, .int x7, .int x8, .long y9, p_U, .long y11, p_U] [.long y3, .long t0] w) ∧
  (∀ (scr : pX) (w : pW) (x1 : Int32) (x2 : Int32) (y3 : Int64) (y5 : Int64) (x7 : Int32) (x8 : Int32) (y9 : Int64) (y11 : Int64) (t0 : Int64) (t1 : Int64), p_ev scr 64 111 [.ref 0, .int x1, .int x2, .long y3, p_U, .long y5, p_U, .int x7, .int x8, .long y9, p_U, .long y11, p_U] [.long t0, .long t1] w = p_ev scr 64 112 [.ref 0, .int x1, .int x2, .long y3, p_U, .long y5, p_U, .int x7, .int x8, .long y9, p_U, .long y11, p_U] [.int (lg_cmp t1 t0)] w) ∧
  (∀ (scr : pX) (w : pW) (x1 : Int32) (x2 : Int32) (y3 : Int64) (y5 : Int64) (x7 : Int32) (x8 : Int32) (y9 : Int64) (y11 : Int64) (s0 : Int32), p_ev scr 64 112 [.ref 0, .int x1, .int x2, .long y3, p_U, .long y5, p_U, .int x7, .int x8, .long y9, p_U, .long y11, p_U] [.int s0] w = if nI 0 ≤ s0 then p_ev scr 64 122 [.ref 0, .int x1, .int x2, .long y3, p_U, .long y5, p_U, .int x7, .int x8, .long y9, p_U, .long y11, p_U] [] w else p_ev scr 64 115 [.ref 0, .int x1, .int x2, .long y3, p_U, .long y5, p_U, .int x7, .int x8, .long y9, p_U, .long y11, p_U] [] w) ∧
  (∀ (scr : pX) (w : pW) (x1 : Int32) (x2 : Int32) (y3 : Int64) (y5 : Int64) (x7 : Int32) (x8 : Int32) (y9 : Int64) (y11 : Int64), p_ev scr 64 115 [.ref 0, .int x1, .int x2, .long y3, p_U, .long y5, p_U, .int x7, .int x8, .long y9, p_U, .long y11, p_U] [] w = p_ev scr 64 117 [.ref 0, .int x1, .int x2, .long y3, p_U, .long y5, p_U, .int x7, .int x8, .long y9, p_U, .long y11, p_U] [.long y9] w) ∧
  (∀ (scr : pX) (w : pW) (x1 : Int32) (x2 : Int32) (y3 : Int64) (y5 : Int64) (x7 : Int32) (x8 : Int32) (y9 : Int64) (y11 : Int64) (t0 : Int64), p_ev scr 64 117 [.ref 0, .int x1, .int x2, .long y3, p_U, .long y5, p_U, .int x7, .int x8, .long y9, p_U, .long y11, p_U] [.long t0] w = p_ev scr 64 118 [.ref 0, .int x1, .int x2, .long t0, p_U, .long y5, p_U, .int x7, .int x8, .long y9, p_U, .long y11, p_U] [] w) ∧
  (∀ (scr : pX) (w : pW) (x1 : Int32) (x2 : Int32) (y3 : Int64) (y5 : Int64) (x7 : Int32) (x8 : Int32) (y9 : Int64) (y11 : Int64), p_ev scr 64 118 [.ref 0, .int x1, .int x2, .long y3, p_U, .long y5, p_U, .int x7, .int x8, .long y9, p_U, .long y11, p_U] [] w = p_ev scr 64 120 [.ref 0, .int x1, .int x2, .long y3, p_U, .long y5, p_U, .int x7, .int x8, .long y9, p_U, .long y11, p_U] [.long y11] w) ∧
  (∀ (scr : pX) (w : pW) (x1 : Int32) (x2 : Int32) (y3 : Int64) (y5 : Int64) (x7 : Int32) (x8 : Int32) (y9 : Int64) (y11 : Int64) (t0 : Int64), p_ev scr 64 120 [.ref 0, .int x1, .int x2, .long y3, p_U, .long y5, p_U, .int x7, .int x8, .long y9, p_U, .long y11, p_U] [.long t0] w = p_ev scr 64 122 [.ref 0, .int x1, .int x2, .long y3, p_U, .long t0, p_U, .int x7, .int x8, .long y9, p_U, .long y11, p_U] [] w) ∧
  (∀ (scr : pX) (w : pW) (x1 : Int32) (x2 : Int32) (y3 : Int64) (y5 : Int64) (x7 : Int32) (x8 : Int32) (y9 : Int64) (z11 : Value), p_ev scr 64 122 [.ref 0, .int x1, .int x2, .long y3, p_U, .long y5, p_U, .int x7, .int x8, .long y9, p_U, z11, p_U] [] w = p_ev scr 64 125 [.ref 0, .int x1, .int x2, .long y3, p_U, .long y5, p_U, .int x7, .int (x8 + (nI 1)), .long y9, p_U, z11, p_U] [] w) ∧
  (∀ (scr : pX) (w : pW) (x1 : Int32) (x2 : Int32) (y3 : Int64) (y5 : Int64) (x7 : Int32) (x8 : Int32) (y9 : Int64) (z11 : Value), p_ev scr 64 125 [.ref 0, .int x1, .int x2, .long y3, p_U, .long y5, p_U, .int x7, .int x8, .long y9, p_U, z11, p_U] [] w = p_ev scr 64 55 [.ref 0, .int x1, .int x2, .long y3, p_U, .long y5, p_U, .int x7, .int x8, .long y9, p_U, z11, p_U] [] w) ∧
  (∀ (scr : pX) (w : pW) (x1 : Int32) (x2 : Int32) (y3 : Int64) (y5 : Int64) (x7 : Int32) (x8 : Int32) (z9 : Value) (z11 : Value), p_ev scr 64 128 [.ref 0, .int x1, .int x2, .long y3, p_U, .long y5, p_U, .int x7, .int x8, z9, p_U, z11, p_U] [] w = p_ev scr 64 129 [.ref 0, .int x1, .int x2, .long y3, p_U, .long y5, p_U, .int x7, .int x8, z9, p_U, z11, p_U] [.long y3] w) ∧
  (∀ (scr : pX) (w : pW) (x1 : Int32) (x2 : Int32) (y3 : Int64) (y5 : Int64) (x7 : Int32) (x8 : Int32) (z9 : Value) (z11 : Value) (t0 : Int64), p_ev scr 64 129 [.ref 0, .int x1, .int x2, .long y3, p_U, .long y5, p_U, .int x7, .int x8, z9, p_U, z11, p_U] [.long t0] w = some (.inl (some (.long t0)), w, 0)) :=
  ⟨fun _ _ _ _ => p_r (by decide +kernel : p_at 64 0 = some (.aload_n 0)) rfl,
  fun _ _ _ _ => p_r (by decide +kernel : p_at 64 1 = some (.iload_n 1)) rfl,
  fun _ _ _ _ _ => p_rcv (nl := 2) (by decide +kernel : p_at 64 2 = some (.invokevirtual 95)) (by decide +kernel : p_inv (p_own 64) 95 = some (1, 71, 2)) (by decide +kernel) (rfl : p_ob 0 = some (.inr (4, [some 1, some 2, some 4, some 3, some 5, some 6, some 7, some 19]))) rfl rfl (Nat.le_of_ble_eq_true rfl) (Nat.le_of_ble_eq_true rfl) (Nat.le_of_ble_eq_true rfl) rfl,
  fun _ _ _ _ => p_r (by decide +kernel : p_at 64 5 = some (.aload_n 0)) rfl,
  fun _ _ _ _ => p_r (by decide +kernel : p_at 64 6 = some (.iload_n 2)) rfl,
  fun _ _ _ _ _ => p_rcv (nl := 2) (by decide +kernel : p_at 64 7 = some (.invokevirtual 172)) (by decide +kernel : p_inv (p_own 64) 172 = some (1, 78, 2)) (by decide +kernel) (rfl : p_ob 0 = some (.inr (4, [some 1, some 2, some 4, some 3, some 5, some 6, some 7, some 19]))) rfl rfl (Nat.le_of_ble_eq_true rfl) (Nat.le_of_ble_eq_true rfl) (Nat.le_of_ble_eq_true rfl) rfl,
  fun _ _ _ _ => p_r (by decide +kernel : p_at 64 10 = some (.aload_n 0)) rfl,
  fun _ _ _ _ => p_r (by decide +kernel : p_at 64 11 = some (.iload_n 1)) rfl,
  fun _ _ _ _ _ => p_rcv (nl := 2) (by decide +kernel : p_at 64 12 = some (.invokevirtual 147)) (by decide +kernel : p_inv (p_own 64) 147 = some (1, 72, 2)) (by decide +kernel) (rfl : p_ob 0 = some (.inr (4, [some 1, some 2, some 4, some 3, some 5, some 6, some 7, some 19]))) rfl rfl (Nat.le_of_ble_eq_true rfl) (Nat.le_of_ble_eq_true rfl) (Nat.le_of_ble_eq_true rfl) rfl,
  fun _ _ _ _ => p_r (by decide +kernel : p_at 64 15 = some (.lconst 0)) rfl,
  fun _ _ _ _ _ => p_r (by decide +kernel : p_at 64 16 = some (.lstore_n 3)) rfl,
  fun _ _ _ _ _ => p_r (by decide +kernel : p_at 64 17 = some (.aload_n 0)) rfl,
  fun _ _ _ _ _ => p_r (by decide +kernel : p_at 64 18 = some (.iload_n 1)) rfl,
  fun _ _ _ _ _ _ => p_r (by decide +kernel : p_at 64 19 = some (.iload_n 2)) rfl,
  fun _ _ _ _ _ _ _ => p_r (by decide +kernel : p_at 64 20 = some (.lconst 0)) rfl,
  fun _ _ _ _ _ _ _ _ => p_rcv (nl := 15) (by decide +kernel : p_at 64 21 = some (.invokevirtual 175)) (by decide +kernel : p_inv (p_own 64) 175 = some (1, 89, 4)) (by decide +kernel) (rfl : p_ob 0 = some (.inr (4, [some 1, some 2, some 4, some 3, some 5, some 6, some 7, some 19]))) rfl rfl (Nat.le_of_ble_eq_true rfl) (Nat.le_of_ble_eq_true rfl) (Nat.le_of_ble_eq_true rfl) rfl,
  fun _ _ _ _ _ _ => p_r (by decide +kernel : p_at 64 24 = some (.lstore 5)) rfl,
  fun _ _ _ _ _ _ => p_r (by decide +kernel : p_at 64 26 = some (.aload_n 0)) rfl,
  fun _ _ _ _ _ _ => p_rgf (f := some 1) (by decide +kernel : p_at 64 27 = some (.getfield 10)) (by decide +kernel : p_fld (p_own 64) 10 = some (4, 0)) (rfl : p_ob 0 = some (.inr (4, [some 1, some 2, some 4, some 3, some 5, some 6, some 7, some 19]))) rfl,
  fun _ _ _ _ _ _ => p_r (by decide +kernel : p_at 64 30 = some (.iload_n 1)) rfl,
  fun _ _ _ _ _ _ _ => p_rcv (nl := 2) (by decide +kernel : p_at 64 31 = some (.invokevirtual 154)) (by decide +kernel : p_inv (p_own 64) 154 = some (1, 40, 2)) (by decide +kernel) (rfl : p_ob 1 = some (.inr (3, [some 18, none]))) rfl rfl (Nat.le_of_ble_eq_true rfl) (Nat.le_of_ble_eq_true rfl) (Nat.le_of_ble_eq_true rfl) rfl,
  fun _ _ _ _ _ _ _ => p_r (by decide +kernel : p_at 64 34 = some (.aload_n 0)) rfl,
  fun _ _ _ _ _ _ _ => p_rgf (f := some 1) (by decide +kernel : p_at 64 35 = some (.getfield 10)) (by decide +kernel : p_fld (p_own 64) 10 = some (4, 0)) (rfl : p_ob 0 = some (.inr (4, [some 1, some 2, some 4, some 3, some 5, some 6, some 7, some 19]))) rfl,
  fun _ _ _ _ _ _ _ => p_r (by decide +kernel : p_at 64 38 = some (.iload_n 1)) rfl,
  fun _ _ _ _ _ _ _ _ => p_rcv (nl := 2) (by decide +kernel : p_at 64 39 = some (.invokevirtual 110)) (by decide +kernel : p_inv (p_own 64) 110 = some (1, 39, 2)) (by decide +kernel) (rfl : p_ob 1 = some (.inr (3, [some 18, none]))) rfl rfl (Nat.le_of_ble_eq_true rfl) (Nat.le_of_ble_eq_true rfl) (Nat.le_of_ble_eq_true rfl) rfl,
  fun _ _ _ _ _ _ _ _ => p_r (by decide +kernel : p_at 64 42 = some (.iadd)) rfl,
  fun _ _ _ _ _ _ _ => p_r (by decide +kernel : p_at 64 43 = some (.istore 7)) rfl,
  fun _ _ _ _ _ _ _ => p_r (by decide +kernel : p_at 64 45 = some (.aload_n 0)) rfl,
  fun _ _ _ _ _ _ _ => p_rgf (f := some 1) (by decide +kernel : p_at 64 46 = some (.getfield 10)) (by decide +kernel : p_fld (p_own 64) 10 = some (4, 0)) (rfl : p_ob 0 = some (.inr (4, [some 1, some 2, some 4, some 3, some 5, some 6, some 7, some 19]))) rfl,
  fun _ _ _ _ _ _ _ => p_r (by decide +kernel : p_at 64 49 = some (.iload_n 1)) rfl,
  fun _ _ _ _ _ _ _ _ => p_rcv (nl := 2) (by decide +kernel : p_at 64 50 = some (.invokevirtual 154)) (by decide +kernel : p_inv (p_own 64) 154 = some (1, 40, 2)) (by decide +kernel) (rfl : p_ob 1 = some (.inr (3, [some 18, none]))) rfl rfl (Nat.le_of_ble_eq_true rfl) (Nat.le_of_ble_eq_true rfl) (Nat.le_of_ble_eq_true rfl) rfl,
  fun _ _ _ _ _ _ _ _ => p_r (by decide +kernel : p_at 64 53 = some (.istore 8)) rfl,
  fun _ _ _ _ _ _ _ _ _ _ _ => p_r (by decide +kernel : p_at 64 57 = some (.iload 7)) rfl,
  fun _ _ _ _ _ _ _ _ _ _ _ _ => p_rb2 (c := fun x y => decide (y ≤ x)) (off := 69) (by decide +kernel : p_at 64 59 = some (.if_icmp .ge 69)) (by decide +kernel) rfl rfl rfl,
  fun _ _ _ _ _ _ _ _ _ _ => p_r (by decide +kernel : p_at 64 62 = some (.aload_n 0)) rfl,
  fun _ _ _ _ _ _ _ _ _ _ => p_rgf (f := some 4) (by decide +kernel : p_at 64 63 = some (.getfield 26)) (by decide +kernel : p_fld (p_own 64) 26 = some (4, 2)) (rfl : p_ob 0 = some (.inr (4, [some 1, some 2, some 4, some 3, some 5, some 6, some 7, some 19]))) rfl,
  fun _ _ _ _ _ _ _ _ _ _ => p_r (by decide +kernel : p_at 64 66 = some (.iload 8)) rfl,
  fun _ _ _ _ _ _ _ _ _ _ _ => p_rcv (nl := 2) (by decide +kernel : p_at 64 68 = some (.invokevirtual 179)) (by decide +kernel : p_inv (p_own 64) 179 = some (1, 26, 2)) (by decide +kernel) (rfl : p_ob 4 = some (.inr (2, [some 11]))) rfl rfl (Nat.le_of_ble_eq_true rfl) (Nat.le_of_ble_eq_true rfl) (Nat.le_of_ble_eq_true rfl) rfl,
  fun _ _ _ _ _ _ _ _ _ _ _ => p_r (by decide +kernel : p_at 64 71 = some (.lstore 9)) rfl,
  fun _ _ _ _ _ _ _ _ _ _ => p_r (by decide +kernel : p_at 64 73 = some (.lload 9)) rfl,
  fun _ _ _ _ _ _ _ _ _ _ _ => p_rldcJ (by decide +kernel : p_at 64 75 = some (.ldc2_w 182)) (by decide +kernel),
  fun _ _ _ _ _ _ _ _ _ _ _ _ => p_r (by decide +kernel : p_at 64 78 = some (.lcmp)) rfl,
  fun _ _ _ _ _ _ _ _ _ _ _ => p_rb1 (c := fun x => decide (0 < x)) (off := 43) (by decide +kernel : p_at 64 79 = some (.ifCond .gt 43)) (by decide +kernel) rfl rfl rfl,
  fun _ _ _ _ _ _ _ _ _ _ => p_r (by decide +kernel : p_at 64 82 = some (.aload_n 0)) rfl,
  fun _ _ _ _ _ _ _ _ _ _ => p_r (by decide +kernel : p_at 64 83 = some (.iload_n 1)) rfl,
  fun _ _ _ _ _ _ _ _ _ _ _ => p_r (by decide +kernel : p_at 64 84 = some (.iload_n 2)) rfl,
  fun _ _ _ _ _ _ _ _ _ _ _ _ => p_r (by decide +kernel : p_at 64 85 = some (.lload 9)) rfl,
  fun _ _ _ _ _ _ _ _ _ _ _ _ _ => p_rcv (nl := 15) (by decide +kernel : p_at 64 87 = some (.invokevirtual 175)) (by decide +kernel : p_inv (p_own 64) 175 = some (1, 89, 4)) (by decide +kernel) (rfl : p_ob 0 = some (.inr (4, [some 1, some 2, some 4, some 3, some 5, some 6, some 7, some 19]))) rfl rfl (Nat.le_of_ble_eq_true rfl) (Nat.le_of_ble_eq_true rfl) (Nat.le_of_ble_eq_true rfl) rfl,
  fun _ _ _ _ _ _ _ _ _ _ _ => p_r (by decide +kernel : p_at 64 90 = some (.lstore 11)) rfl,
  fun _ _ _ _ _ _ _ _ _ _ => p_r (by decide +kernel : p_at 64 92 = some (.lload 11)) rfl,
  fun _ _ _ _ _ _ _ _ _ _ _ => p_r (by decide +kernel : p_at 64 94 = some (.lload 5)) rfl,
  fun _ _ _ _ _ _ _ _ _ _ _ _ => p_r (by decide +kernel : p_at 64 96 = some (.lcmp)) rfl,
  fun _ _ _ _ _ _ _ _ _ _ _ => p_rb1 (c := fun x => decide (x < 0)) (off := 18) (by decide +kernel : p_at 64 97 = some (.ifCond .lt 18)) (by decide +kernel) rfl rfl rfl,
  fun _ _ _ _ _ _ _ _ _ _ => p_r (by decide +kernel : p_at 64 100 = some (.lload 11)) rfl,
  fun _ _ _ _ _ _ _ _ _ _ _ => p_r (by decide +kernel : p_at 64 102 = some (.lload 5)) rfl,
  fun _ _ _ _ _ _ _ _ _ _ _ _ => p_r (by decide +kernel : p_at 64 104 = some (.lcmp)) rfl,
  fun _ _ _ _ _ _ _ _ _ _ _ => p_rb1 (c := fun x => decide (¬ x = 0)) (off := 17) (by decide +kernel : p_at 64 105 = some (.ifCond .ne 17)) (by decide +kernel) rfl rfl rfl,
  fun _ _ _ _ _ _ _ _ _ _ => p_r (by decide +kernel : p_at 64 108 = some (.lload 9)) rfl,
  fun _ _ _ _ _ _ _ _ _ _ _ => p_r (by decide +kernel : p_at 64 110 = some (.lload_n 3)) rfl,
  fun _ _ _ _ _ _ _ _ _ _ _ _ => p_r (by decide +kernel : p_at 64 111 = some (.lcmp)) rfl,
  fun _ _ _ _ _ _ _ _ _ _ _ => p_rb1 (c := fun x => decide (0 ≤ x)) (off := 10) (by decide +kernel : p_at 64 112 = some (.ifCond .ge 10)) (by decide +kernel) rfl rfl rfl,
  fun _ _ _ _ _ _ _ _ _ _ => p_r (by decide +kernel : p_at 64 115 = some (.lload 9)) rfl,
  fun _ _ _ _ _ _ _ _ _ _ _ => p_r (by decide +kernel : p_at 64 117 = some (.lstore_n 3)) rfl,
  fun _ _ _ _ _ _ _ _ _ _ => p_r (by decide +kernel : p_at 64 118 = some (.lload 11)) rfl,
  fun _ _ _ _ _ _ _ _ _ _ _ => p_r (by decide +kernel : p_at 64 120 = some (.lstore 5)) rfl,
  fun _ _ _ _ _ _ _ _ _ _ => p_r (by decide +kernel : p_at 64 122 = some (.iinc 8 1)) rfl,
  fun _ _ _ _ _ _ _ _ _ _ => p_rgo (by decide +kernel : p_at 64 125 = some (.goto (-70))) (by decide +kernel),
  fun _ _ _ _ _ _ _ _ _ _ => p_r (by decide +kernel : p_at 64 128 = some (.lload_n 3)) rfl,
  fun _ _ _ _ _ _ _ _ _ _ _ => p_rlret (by decide +kernel : p_at 64 129 = some (.lreturn)) (by decide +kernel)⟩
theorem H64_55 :
  (∀ (scr : pX) (w : pW) (x1 : Int32) (x2 : Int32) (y3 : Int64) (y5 : Int64) (x7 : Int32) (x8 : Int32) (z9 : Value) (z11 : Value), p_ev scr 64 55 [.ref 0, .int x1, .int x2, .long y3, p_U, .long y5, p_U, .int x7, .int x8, z9, p_U, z11, p_U] [] w = p_ev scr 64 57 [.ref 0, .int x1, .int x2, .long y3, p_U, .long y5, p_U, .int x7, .int x8, z9, p_U, z11, p_U] [.int x8] w) :=
  fun _ _ _ _ _ _ _ _ _ _ => p_r (by decide +kernel : p_at 64 55 = some (.iload 8)) rfl
-- 65: isPyramid
theorem M65 :
  (∀ (scr : pX) (w : pW), p_ev scr 65 0 [.ref 0, p_U] [] w = p_ev scr 65 1 [.ref 0, p_U] [.int (nI 3)] w) ∧
  (∀ (scr : pX) (w : pW) (s0 : Int32), p_ev scr 65 1 [.ref 0, p_U] [.int s0] w = p_ev scr 65 2 [.ref 0, .int s0] [] w) ∧
  (∀ (scr : pX) (w : pW) (x1 : Int32) (s0 : Int32), p_ev scr 65 3 [.ref 0, .int x1] [.int s0] w = p_ev scr 65 5 [.ref 0, .int x1] [.int (nI 8), .int s0] w) ∧
  (∀ (scr : pX) (w : pW) (x1 : Int32) (s0 : Int32) (s1 : Int32), p_ev scr 65 5 [.ref 0, .int x1] [.int s0, .int s1] w = if s0 ≤ s1 then p_ev scr 65 27 [.ref 0, .int x1] [] w else p_ev scr 65 8 [.ref 0, .int x1] [] w) ∧
  (∀ (scr : pX) (w : pW) (x1 : Int32), p_ev scr 65 8 [.ref 0, .int x1] [] w = p_ev scr 65 9 [.ref 0, .int x1] [.ref 0] w) ∧
  (∀ (scr : pX) (w : pW) (x1 : Int32), p_ev scr 65 9 [.ref 0, .int x1] [.ref 0] w = p_ev scr 65 12 [.ref 0, .int x1] [.ref 1] w) ∧
  (∀ (scr : pX) (w : pW) (x1 : Int32), p_ev scr 65 12 [.ref 0, .int x1] [.ref 1] w = p_ev scr 65 13 [.ref 0, .int x1] [.int x1, .ref 1] w) ∧
  (∀ (scr : pX) (w : pW) (x1 : Int32) (s0 : Int32), p_ev scr 65 13 [.ref 0, .int x1] [.int s0, .ref 1] w = p_bnd scr 65 13 16 [.ref 0, .int x1] [] (p_ev none 33 0 [.ref 1, .int s0] [] w)) ∧
  (∀ (scr : pX) (w : pW) (x1 : Int32) (s0 : Int32), p_ev scr 65 16 [.ref 0, .int x1] [.int s0] w = if s0 = nI 0 then p_ev scr 65 21 [.ref 0, .int x1] [] w else p_ev scr 65 19 [.ref 0, .int x1] [] w) ∧
  (∀ (scr : pX) (w : pW) (x1 : Int32), p_ev scr 65 19 [.ref 0, .int x1] [] w = p_ev scr 65 20 [.ref 0, .int x1] [.int (nI 0)] w) ∧
  (∀ (scr : pX) (w : pW) (x1 : Int32) (s0 : Int32), narrow .boolean (.int s0) = .int s0 → p_ev scr 65 20 [.ref 0, .int x1] [.int s0] w = some (.inl (some (.int s0)), w, 0)) ∧
  (∀ (scr : pX) (w : pW) (x1 : Int32), p_ev scr 65 21 [.ref 0, .int x1] [] w = p_ev scr 65 24 [.ref 0, .int (x1 + (nI 2))] [] w) ∧
  (∀ (scr : pX) (w : pW) (x1 : Int32), p_ev scr 65 24 [.ref 0, .int x1] [] w = p_ev scr 65 2 [.ref 0, .int x1] [] w) ∧
  (∀ (scr : pX) (w : pW) (x1 : Int32), p_ev scr 65 27 [.ref 0, .int x1] [] w = p_ev scr 65 28 [.ref 0, .int x1] [.int (nI 1)] w) ∧
  (∀ (scr : pX) (w : pW) (x1 : Int32) (s0 : Int32), narrow .boolean (.int s0) = .int s0 → p_ev scr 65 28 [.ref 0, .int x1] [.int s0] w = some (.inl (some (.int s0)), w, 0)) :=
  ⟨fun _ _ => p_r (by decide +kernel : p_at 65 0 = some (.iconst 3)) rfl,
  fun _ _ _ => p_r (by decide +kernel : p_at 65 1 = some (.istore_n 1)) rfl,
  fun _ _ _ _ => p_r (by decide +kernel : p_at 65 3 = some (.bipush 8)) rfl,
  fun _ _ _ _ _ => p_rb2 (c := fun x y => decide (y ≤ x)) (off := 22) (by decide +kernel : p_at 65 5 = some (.if_icmp .ge 22)) (by decide +kernel) rfl rfl rfl,
  fun _ _ _ => p_r (by decide +kernel : p_at 65 8 = some (.aload_n 0)) rfl,
  fun _ _ _ => p_rgf (f := some 1) (by decide +kernel : p_at 65 9 = some (.getfield 10)) (by decide +kernel : p_fld (p_own 65) 10 = some (4, 0)) (rfl : p_ob 0 = some (.inr (4, [some 1, some 2, some 4, some 3, some 5, some 6, some 7, some 19]))) rfl,
  fun _ _ _ => p_r (by decide +kernel : p_at 65 12 = some (.iload_n 1)) rfl,
  fun _ _ _ _ => p_rcv (nl := 2) (by decide +kernel : p_at 65 13 = some (.invokevirtual 114)) (by decide +kernel : p_inv (p_own 65) 114 = some (1, 33, 2)) (by decide +kernel) (rfl : p_ob 1 = some (.inr (3, [some 18, none]))) rfl rfl (Nat.le_of_ble_eq_true rfl) (Nat.le_of_ble_eq_true rfl) (Nat.le_of_ble_eq_true rfl) rfl,
  fun _ _ _ _ => p_rb1 (c := fun x => decide (x = 0)) (off := 5) (by decide +kernel : p_at 65 16 = some (.ifCond .eq 5)) (by decide +kernel) rfl rfl rfl,
  fun _ _ _ => p_r (by decide +kernel : p_at 65 19 = some (.iconst 0)) rfl,
  fun _ _ _ _ hp => p_rzret (by decide +kernel : p_at 65 20 = some (.ireturn)) (by decide +kernel) hp,
  fun _ _ _ => p_r (by decide +kernel : p_at 65 21 = some (.iinc 1 2)) rfl,
  fun _ _ _ => p_rgo (by decide +kernel : p_at 65 24 = some (.goto (-22))) (by decide +kernel),
  fun _ _ _ => p_r (by decide +kernel : p_at 65 27 = some (.iconst 1)) rfl,
  fun _ _ _ _ hp => p_rzret (by decide +kernel : p_at 65 28 = some (.ireturn)) (by decide +kernel) hp⟩
theorem H65_2 :
  (∀ (scr : pX) (w : pW) (x1 : Int32), p_ev scr 65 2 [.ref 0, .int x1] [] w = p_ev scr 65 3 [.ref 0, .int x1] [.int x1] w) :=
  fun _ _ _ => p_r (by decide +kernel : p_at 65 2 = some (.iload_n 1)) rfl
-- 66: bits
theorem M66 :
  (∀ (scr : pX) (w : pW), p_ev scr 66 0 [.ref 0] [] w = p_ev scr 66 1 [.ref 0] [.ref 0] w) ∧
  (∀ (scr : pX) (w : pW), p_ev scr 66 1 [.ref 0] [.ref 0] w = p_bnd scr 66 1 4 [.ref 0] [] (p_ev none 74 0 [.ref 0] [] w)) ∧
  (∀ (scr : pX) (w : pW), p_ev scr 66 4 [.ref 0] [] w = p_ev scr 66 5 [.ref 0] [.ref 0] w) ∧
  (∀ (scr : pX) (w : pW), p_ev scr 66 5 [.ref 0] [.ref 0] w = p_bnd scr 66 5 8 [.ref 0] [] (p_ev none 90 0 [.ref 0] [] w)) ∧
  (∀ (scr : pX) (w : pW), p_ev scr 66 8 [.ref 0] [] w = p_ev scr 66 9 [.ref 0] [.ref 0] w) ∧
  (∀ (scr : pX) (w : pW), p_ev scr 66 9 [.ref 0] [.ref 0] w = p_ev scr 66 12 [.ref 0] [.ref 3] w) ∧
  (∀ (scr : pX) (w : pW), p_ev scr 66 12 [.ref 0] [.ref 3] w = p_bnd scr 66 12 15 [.ref 0] [] (p_ev none 1 0 [.ref 3] [] w)) ∧
  (∀ (scr : pX) (w : pW) (s0 : Int32), p_ev scr 66 15 [.ref 0] [.int s0] w = some (.inl (some (.int s0)), w, 0)) :=
  ⟨fun _ _ => p_r (by decide +kernel : p_at 66 0 = some (.aload_n 0)) rfl,
  fun _ _ => p_rcv (nl := 1) (by decide +kernel : p_at 66 1 = some (.invokevirtual 184)) (by decide +kernel : p_inv (p_own 66) 184 = some (1, 74, 1)) (by decide +kernel) (rfl : p_ob 0 = some (.inr (4, [some 1, some 2, some 4, some 3, some 5, some 6, some 7, some 19]))) rfl rfl (Nat.le_of_ble_eq_true rfl) (Nat.le_of_ble_eq_true rfl) (Nat.le_of_ble_eq_true rfl) rfl,
  fun _ _ => p_r (by decide +kernel : p_at 66 4 = some (.aload_n 0)) rfl,
  fun _ _ => p_rcv (nl := 1) (by decide +kernel : p_at 66 5 = some (.invokevirtual 187)) (by decide +kernel : p_inv (p_own 66) 187 = some (1, 90, 1)) (by decide +kernel) (rfl : p_ob 0 = some (.inr (4, [some 1, some 2, some 4, some 3, some 5, some 6, some 7, some 19]))) rfl rfl (Nat.le_of_ble_eq_true rfl) (Nat.le_of_ble_eq_true rfl) (Nat.le_of_ble_eq_true rfl) rfl,
  fun _ _ => p_r (by decide +kernel : p_at 66 8 = some (.aload_n 0)) rfl,
  fun _ _ => p_rgf (f := some 3) (by decide +kernel : p_at 66 9 = some (.getfield 33)) (by decide +kernel : p_fld (p_own 66) 33 = some (4, 3)) (rfl : p_ob 0 = some (.inr (4, [some 1, some 2, some 4, some 3, some 5, some 6, some 7, some 19]))) rfl,
  fun _ _ => p_rcv (nl := 1) (by decide +kernel : p_at 66 12 = some (.invokevirtual 190)) (by decide +kernel : p_inv (p_own 66) 190 = some (1, 1, 1)) (by decide +kernel) (rfl : p_ob 3 = some (.inr (0, [some 9, some 10, some 20, some 21, some 22, none, none, none]))) rfl rfl (Nat.le_of_ble_eq_true rfl) (Nat.le_of_ble_eq_true rfl) (Nat.le_of_ble_eq_true rfl) rfl,
  fun _ _ _ => p_riret (by decide +kernel : p_at 66 15 = some (.ireturn)) (by decide +kernel)⟩
-- 67: bitAt
theorem M67 :
  (∀ (scr : pX) (w : pW) (x1 : Int32), p_ev scr 67 0 [.ref 0, .int x1] [] w = p_ev scr 67 1 [.ref 0, .int x1] [.ref 0] w) ∧
  (∀ (scr : pX) (w : pW) (x1 : Int32), p_ev scr 67 1 [.ref 0, .int x1] [.ref 0] w = p_bnd scr 67 1 4 [.ref 0, .int x1] [] (p_ev none 74 0 [.ref 0] [] w)) ∧
  (∀ (scr : pX) (w : pW) (x1 : Int32), p_ev scr 67 4 [.ref 0, .int x1] [] w = p_ev scr 67 5 [.ref 0, .int x1] [.ref 0] w) ∧
  (∀ (scr : pX) (w : pW) (x1 : Int32), p_ev scr 67 5 [.ref 0, .int x1] [.ref 0] w = p_bnd scr 67 5 8 [.ref 0, .int x1] [] (p_ev none 90 0 [.ref 0] [] w)) ∧
  (∀ (scr : pX) (w : pW) (x1 : Int32), p_ev scr 67 8 [.ref 0, .int x1] [] w = p_ev scr 67 9 [.ref 0, .int x1] [.int x1] w) ∧
  (∀ (scr : pX) (w : pW) (x1 : Int32) (s0 : Int32), p_ev scr 67 9 [.ref 0, .int x1] [.int s0] w = if s0 < nI 0 then p_ev scr 67 23 [.ref 0, .int x1] [] w else p_ev scr 67 12 [.ref 0, .int x1] [] w) ∧
  (∀ (scr : pX) (w : pW) (x1 : Int32), p_ev scr 67 12 [.ref 0, .int x1] [] w = p_ev scr 67 13 [.ref 0, .int x1] [.int x1] w) ∧
  (∀ (scr : pX) (w : pW) (x1 : Int32) (s0 : Int32), p_ev scr 67 13 [.ref 0, .int x1] [.int s0] w = p_ev scr 67 14 [.ref 0, .int x1] [.ref 0, .int s0] w) ∧
  (∀ (scr : pX) (w : pW) (x1 : Int32) (s1 : Int32), p_ev scr 67 14 [.ref 0, .int x1] [.ref 0, .int s1] w = p_ev scr 67 17 [.ref 0, .int x1] [.ref 3, .int s1] w) ∧
  (∀ (scr : pX) (w : pW) (x1 : Int32) (s1 : Int32), p_ev scr 67 17 [.ref 0, .int x1] [.ref 3, .int s1] w = p_bnd scr 67 17 20 [.ref 0, .int x1] [.int s1] (p_ev none 1 0 [.ref 3] [] w)) ∧
  (∀ (scr : pX) (w : pW) (x1 : Int32) (s0 : Int32) (s1 : Int32), p_ev scr 67 20 [.ref 0, .int x1] [.int s0, .int s1] w = if s1 < s0 then p_ev scr 67 33 [.ref 0, .int x1] [] w else p_ev scr 67 23 [.ref 0, .int x1] [] w) ∧
  (∀ (scr : pX) (w : pW) (x1 : Int32), p_ev scr 67 23 [.ref 0, .int x1] [] w = some (.inr (.inl 2), w, 1)) ∧
  (∀ (scr : pX) (w : pW) (x1 : Int32), p_ev scr 67 33 [.ref 0, .int x1] [] w = p_ev scr 67 34 [.ref 0, .int x1] [.ref 0] w) ∧
  (∀ (scr : pX) (w : pW) (x1 : Int32), p_ev scr 67 34 [.ref 0, .int x1] [.ref 0] w = p_ev scr 67 37 [.ref 0, .int x1] [.ref 3] w) ∧
  (∀ (scr : pX) (w : pW) (x1 : Int32), p_ev scr 67 37 [.ref 0, .int x1] [.ref 3] w = p_ev scr 67 38 [.ref 0, .int x1] [.int x1, .ref 3] w) ∧
  (∀ (scr : pX) (w : pW) (x1 : Int32) (s0 : Int32), p_ev scr 67 38 [.ref 0, .int x1] [.int s0, .ref 3] w = p_bnd scr 67 38 41 [.ref 0, .int x1] [] (p_ev none 2 0 [.ref 3, .int s0] [] w)) ∧
  (∀ (scr : pX) (w : pW) (x1 : Int32) (s0 : Int32), p_ev scr 67 41 [.ref 0, .int x1] [.int s0] w = some (.inl (some (.int s0)), w, 0)) :=
  ⟨fun _ _ _ => p_r (by decide +kernel : p_at 67 0 = some (.aload_n 0)) rfl,
  fun _ _ _ => p_rcv (nl := 1) (by decide +kernel : p_at 67 1 = some (.invokevirtual 184)) (by decide +kernel : p_inv (p_own 67) 184 = some (1, 74, 1)) (by decide +kernel) (rfl : p_ob 0 = some (.inr (4, [some 1, some 2, some 4, some 3, some 5, some 6, some 7, some 19]))) rfl rfl (Nat.le_of_ble_eq_true rfl) (Nat.le_of_ble_eq_true rfl) (Nat.le_of_ble_eq_true rfl) rfl,
  fun _ _ _ => p_r (by decide +kernel : p_at 67 4 = some (.aload_n 0)) rfl,
  fun _ _ _ => p_rcv (nl := 1) (by decide +kernel : p_at 67 5 = some (.invokevirtual 187)) (by decide +kernel : p_inv (p_own 67) 187 = some (1, 90, 1)) (by decide +kernel) (rfl : p_ob 0 = some (.inr (4, [some 1, some 2, some 4, some 3, some 5, some 6, some 7, some 19]))) rfl rfl (Nat.le_of_ble_eq_true rfl) (Nat.le_of_ble_eq_true rfl) (Nat.le_of_ble_eq_true rfl) rfl,
  fun _ _ _ => p_r (by decide +kernel : p_at 67 8 = some (.iload_n 1)) rfl,
  fun _ _ _ _ => p_rb1 (c := fun x => decide (x < 0)) (off := 14) (by decide +kernel : p_at 67 9 = some (.ifCond .lt 14)) (by decide +kernel) rfl rfl rfl,
  fun _ _ _ => p_r (by decide +kernel : p_at 67 12 = some (.iload_n 1)) rfl,
  fun _ _ _ _ => p_r (by decide +kernel : p_at 67 13 = some (.aload_n 0)) rfl,
  fun _ _ _ _ => p_rgf (f := some 3) (by decide +kernel : p_at 67 14 = some (.getfield 33)) (by decide +kernel : p_fld (p_own 67) 33 = some (4, 3)) (rfl : p_ob 0 = some (.inr (4, [some 1, some 2, some 4, some 3, some 5, some 6, some 7, some 19]))) rfl,
  fun _ _ _ _ => p_rcv (nl := 1) (by decide +kernel : p_at 67 17 = some (.invokevirtual 190)) (by decide +kernel : p_inv (p_own 67) 190 = some (1, 1, 1)) (by decide +kernel) (rfl : p_ob 3 = some (.inr (0, [some 9, some 10, some 20, some 21, some 22, none, none, none]))) rfl rfl (Nat.le_of_ble_eq_true rfl) (Nat.le_of_ble_eq_true rfl) (Nat.le_of_ble_eq_true rfl) rfl,
  fun _ _ _ _ _ => p_rb2 (c := fun x y => decide (x < y)) (off := 13) (by decide +kernel : p_at 67 20 = some (.if_icmp .lt 13)) (by decide +kernel) rfl rfl rfl,
  fun _ _ _ => p_rnew (by decide +kernel : p_at 67 23 = some (.new 128)) (by decide +kernel) (by decide +kernel : p_at 67 27 = some (.ldc 193)) (by decide +kernel : p_at 67 29 = some (.invokespecial 132)) (by decide +kernel) (by decide +kernel) (by decide +kernel),
  fun _ _ _ => p_r (by decide +kernel : p_at 67 33 = some (.aload_n 0)) rfl,
  fun _ _ _ => p_rgf (f := some 3) (by decide +kernel : p_at 67 34 = some (.getfield 33)) (by decide +kernel : p_fld (p_own 67) 33 = some (4, 3)) (rfl : p_ob 0 = some (.inr (4, [some 1, some 2, some 4, some 3, some 5, some 6, some 7, some 19]))) rfl,
  fun _ _ _ => p_r (by decide +kernel : p_at 67 37 = some (.iload_n 1)) rfl,
  fun _ _ _ _ => p_rcv (nl := 2) (by decide +kernel : p_at 67 38 = some (.invokevirtual 195)) (by decide +kernel : p_inv (p_own 67) 195 = some (1, 2, 2)) (by decide +kernel) (rfl : p_ob 3 = some (.inr (0, [some 9, some 10, some 20, some 21, some 22, none, none, none]))) rfl rfl (Nat.le_of_ble_eq_true rfl) (Nat.le_of_ble_eq_true rfl) (Nat.le_of_ble_eq_true rfl) rfl,
  fun _ _ _ _ => p_riret (by decide +kernel : p_at 67 41 = some (.ireturn)) (by decide +kernel)⟩
-- 68: broughtBack
theorem M68 :
  (∀ (scr : pX) (w : pW) (x1 : Int32) (x2 : Int32), p_ev scr 68 0 [.ref 0, .int x1, .int x2] [] w = p_ev scr 68 1 [.ref 0, .int x1, .int x2] [.ref 0] w) ∧
  (∀ (scr : pX) (w : pW) (x1 : Int32) (x2 : Int32), p_ev scr 68 1 [.ref 0, .int x1, .int x2] [.ref 0] w = p_bnd scr 68 1 4 [.ref 0, .int x1, .int x2] [] (p_ev none 74 0 [.ref 0] [] w)) ∧
  (∀ (scr : pX) (w : pW) (x1 : Int32) (x2 : Int32), p_ev scr 68 4 [.ref 0, .int x1, .int x2] [] w = p_ev scr 68 5 [.ref 0, .int x1, .int x2] [.ref 0] w) ∧
  (∀ (scr : pX) (w : pW) (x1 : Int32) (x2 : Int32), p_ev scr 68 5 [.ref 0, .int x1, .int x2] [.ref 0] w = p_ev scr 68 6 [.ref 0, .int x1, .int x2] [.int x1, .ref 0] w) ∧
  (∀ (scr : pX) (w : pW) (x1 : Int32) (x2 : Int32) (s0 : Int32), p_ev scr 68 6 [.ref 0, .int x1, .int x2] [.int s0, .ref 0] w = p_bnd scr 68 6 9 [.ref 0, .int x1, .int x2] [] (p_ev none 79 0 [.ref 0, .int s0] [] w)) ∧
  (∀ (scr : pX) (w : pW) (x1 : Int32) (x2 : Int32), p_ev scr 68 9 [.ref 0, .int x1, .int x2] [] w = p_ev scr 68 10 [.ref 0, .int x1, .int x2] [.ref 0] w) ∧
  (∀ (scr : pX) (w : pW) (x1 : Int32) (x2 : Int32), p_ev scr 68 10 [.ref 0, .int x1, .int x2] [.ref 0] w = p_ev scr 68 11 [.ref 0, .int x1, .int x2] [.int x2, .ref 0] w) ∧
  (∀ (scr : pX) (w : pW) (x1 : Int32) (x2 : Int32) (s0 : Int32), p_ev scr 68 11 [.ref 0, .int x1, .int x2] [.int s0, .ref 0] w = p_bnd scr 68 11 14 [.ref 0, .int x1, .int x2] [] (p_ev none 75 0 [.ref 0, .int s0] [] w)) ∧
  (∀ (scr : pX) (w : pW) (x1 : Int32) (x2 : Int32), p_ev scr 68 14 [.ref 0, .int x1, .int x2] [] w = p_ev scr 68 15 [.ref 0, .int x1, .int x2] [.ref 0] w) ∧
  (∀ (scr : pX) (w : pW) (x1 : Int32) (x2 : Int32), p_ev scr 68 15 [.ref 0, .int x1, .int x2] [.ref 0] w = p_bnd scr 68 15 18 [.ref 0, .int x1, .int x2] [] (p_ev none 90 0 [.ref 0] [] w)) ∧
  (∀ (scr : pX) (w : pW) (x1 : Int32) (x2 : Int32), p_ev scr 68 18 [.ref 0, .int x1, .int x2] [] w = p_ev scr 68 19 [.ref 0, .int x1, .int x2] [.ref 0] w) ∧
  (∀ (scr : pX) (w : pW) (x1 : Int32) (x2 : Int32), p_ev scr 68 19 [.ref 0, .int x1, .int x2] [.ref 0] w = p_ev scr 68 20 [.ref 0, .int x1, .int x2] [.int x1, .ref 0] w) ∧
  (∀ (scr : pX) (w : pW) (x1 : Int32) (x2 : Int32) (s0 : Int32), p_ev scr 68 20 [.ref 0, .int x1, .int x2] [.int s0, .ref 0] w = p_bnd scr 68 20 23 [.ref 0, .int x1, .int x2] [] (p_ev none 91 0 [.ref 0, .int s0, p_U] [] w)) ∧
  (∀ (scr : pX) (w : pW) (x1 : Int32) (x2 : Int32), p_ev scr 68 23 [.ref 0, .int x1, .int x2] [] w = p_ev scr 68 24 [.ref 0, .int x1, .int x2] [.ref 0] w) ∧
  (∀ (scr : pX) (w : pW) (x1 : Int32) (x2 : Int32), p_ev scr 68 24 [.ref 0, .int x1, .int x2] [.ref 0] w = p_bnd scr 68 24 27 [.ref 0, .int x1, .int x2] [] (p_ev none 92 0 [.ref 0] [] w)) ∧
  (∀ (scr : pX) (w : pW) (x1 : Int32) (x2 : Int32), p_ev scr 68 27 [.ref 0, .int x1, .int x2] [] w = p_ev scr 68 28 [.ref 0, .int x1, .int x2] [.ref 0] w) ∧
  (∀ (scr : pX) (w : pW) (x1 : Int32) (x2 : Int32), p_ev scr 68 28 [.ref 0, .int x1, .int x2] [.ref 0] w = p_ev scr 68 31 [.ref 0, .int x1, .int x2] [.ref 7] w) ∧
  (∀ (scr : pX) (w : pW) (x1 : Int32) (x2 : Int32), p_ev scr 68 31 [.ref 0, .int x1, .int x2] [.ref 7] w = p_ev scr 68 32 [.ref 0, .int x1, .int x2] [.int x2, .ref 7] w) ∧
  (∀ (scr : pX) (w : pW) (x1 : Int32) (x2 : Int32) (s0 : Int32), p_ev scr 68 32 [.ref 0, .int x1, .int x2] [.int s0, .ref 7] w = p_bnd scr 68 32 35 [.ref 0, .int x1, .int x2] [] (p_ev none 24 0 [.ref 7, .int s0] [] w)) ∧
  (∀ (scr : pX) (w : pW) (x1 : Int32) (x2 : Int32) (t0 : Int64), p_ev scr 68 35 [.ref 0, .int x1, .int x2] [.long t0] w = some (.inl (some (.long t0)), w, 0)) :=
  ⟨fun _ _ _ _ => p_r (by decide +kernel : p_at 68 0 = some (.aload_n 0)) rfl,
  fun _ _ _ _ => p_rcv (nl := 1) (by decide +kernel : p_at 68 1 = some (.invokevirtual 184)) (by decide +kernel : p_inv (p_own 68) 184 = some (1, 74, 1)) (by decide +kernel) (rfl : p_ob 0 = some (.inr (4, [some 1, some 2, some 4, some 3, some 5, some 6, some 7, some 19]))) rfl rfl (Nat.le_of_ble_eq_true rfl) (Nat.le_of_ble_eq_true rfl) (Nat.le_of_ble_eq_true rfl) rfl,
  fun _ _ _ _ => p_r (by decide +kernel : p_at 68 4 = some (.aload_n 0)) rfl,
  fun _ _ _ _ => p_r (by decide +kernel : p_at 68 5 = some (.iload_n 1)) rfl,
  fun _ _ _ _ _ => p_rcv (nl := 2) (by decide +kernel : p_at 68 6 = some (.invokevirtual 198)) (by decide +kernel : p_inv (p_own 68) 198 = some (1, 79, 2)) (by decide +kernel) (rfl : p_ob 0 = some (.inr (4, [some 1, some 2, some 4, some 3, some 5, some 6, some 7, some 19]))) rfl rfl (Nat.le_of_ble_eq_true rfl) (Nat.le_of_ble_eq_true rfl) (Nat.le_of_ble_eq_true rfl) rfl,
  fun _ _ _ _ => p_r (by decide +kernel : p_at 68 9 = some (.aload_n 0)) rfl,
  fun _ _ _ _ => p_r (by decide +kernel : p_at 68 10 = some (.iload_n 2)) rfl,
  fun _ _ _ _ _ => p_rcv (nl := 2) (by decide +kernel : p_at 68 11 = some (.invokevirtual 68)) (by decide +kernel : p_inv (p_own 68) 68 = some (1, 75, 2)) (by decide +kernel) (rfl : p_ob 0 = some (.inr (4, [some 1, some 2, some 4, some 3, some 5, some 6, some 7, some 19]))) rfl rfl (Nat.le_of_ble_eq_true rfl) (Nat.le_of_ble_eq_true rfl) (Nat.le_of_ble_eq_true rfl) rfl,
  fun _ _ _ _ => p_r (by decide +kernel : p_at 68 14 = some (.aload_n 0)) rfl,
  fun _ _ _ _ => p_rcv (nl := 1) (by decide +kernel : p_at 68 15 = some (.invokevirtual 187)) (by decide +kernel : p_inv (p_own 68) 187 = some (1, 90, 1)) (by decide +kernel) (rfl : p_ob 0 = some (.inr (4, [some 1, some 2, some 4, some 3, some 5, some 6, some 7, some 19]))) rfl rfl (Nat.le_of_ble_eq_true rfl) (Nat.le_of_ble_eq_true rfl) (Nat.le_of_ble_eq_true rfl) rfl,
  fun _ _ _ _ => p_r (by decide +kernel : p_at 68 18 = some (.aload_n 0)) rfl,
  fun _ _ _ _ => p_r (by decide +kernel : p_at 68 19 = some (.iload_n 1)) rfl,
  fun _ _ _ _ _ => p_rcv (nl := 3) (by decide +kernel : p_at 68 20 = some (.invokevirtual 201)) (by decide +kernel : p_inv (p_own 68) 201 = some (1, 91, 2)) (by decide +kernel) (rfl : p_ob 0 = some (.inr (4, [some 1, some 2, some 4, some 3, some 5, some 6, some 7, some 19]))) rfl rfl (Nat.le_of_ble_eq_true rfl) (Nat.le_of_ble_eq_true rfl) (Nat.le_of_ble_eq_true rfl) rfl,
  fun _ _ _ _ => p_r (by decide +kernel : p_at 68 23 = some (.aload_n 0)) rfl,
  fun _ _ _ _ => p_rcv (nl := 1) (by decide +kernel : p_at 68 24 = some (.invokevirtual 204)) (by decide +kernel : p_inv (p_own 68) 204 = some (1, 92, 1)) (by decide +kernel) (rfl : p_ob 0 = some (.inr (4, [some 1, some 2, some 4, some 3, some 5, some 6, some 7, some 19]))) rfl rfl (Nat.le_of_ble_eq_true rfl) (Nat.le_of_ble_eq_true rfl) (Nat.le_of_ble_eq_true rfl) rfl,
  fun _ _ _ _ => p_r (by decide +kernel : p_at 68 27 = some (.aload_n 0)) rfl,
  fun _ _ _ _ => p_rgf (f := some 7) (by decide +kernel : p_at 68 28 = some (.getfield 43)) (by decide +kernel : p_fld (p_own 68) 43 = some (4, 6)) (rfl : p_ob 0 = some (.inr (4, [some 1, some 2, some 4, some 3, some 5, some 6, some 7, some 19]))) rfl,
  fun _ _ _ _ => p_r (by decide +kernel : p_at 68 31 = some (.iload_n 2)) rfl,
  fun _ _ _ _ _ => p_rcv (nl := 2) (by decide +kernel : p_at 68 32 = some (.invokevirtual 76)) (by decide +kernel : p_inv (p_own 68) 76 = some (1, 24, 2)) (by decide +kernel) (rfl : p_ob 7 = some (.inr (2, [some 14]))) rfl rfl (Nat.le_of_ble_eq_true rfl) (Nat.le_of_ble_eq_true rfl) (Nat.le_of_ble_eq_true rfl) rfl,
  fun _ _ _ _ _ => p_rlret (by decide +kernel : p_at 68 35 = some (.lreturn)) (by decide +kernel)⟩
-- 69: errorWith
theorem M69 :
  (∀ (scr : pX) (w : pW) (x1 : Int32), p_ev scr 69 0 [.ref 0, .int x1] [] w = p_ev scr 69 1 [.ref 0, .int x1] [.ref 0] w) ∧
  (∀ (scr : pX) (w : pW) (x1 : Int32), p_ev scr 69 1 [.ref 0, .int x1] [.ref 0] w = p_bnd scr 69 1 4 [.ref 0, .int x1] [] (p_ev none 74 0 [.ref 0] [] w)) ∧
  (∀ (scr : pX) (w : pW) (x1 : Int32), p_ev scr 69 4 [.ref 0, .int x1] [] w = p_ev scr 69 5 [.ref 0, .int x1] [.ref 0] w) ∧
  (∀ (scr : pX) (w : pW) (x1 : Int32), p_ev scr 69 5 [.ref 0, .int x1] [.ref 0] w = p_ev scr 69 6 [.ref 0, .int x1] [.int x1, .ref 0] w) ∧
  (∀ (scr : pX) (w : pW) (x1 : Int32) (s0 : Int32), p_ev scr 69 6 [.ref 0, .int x1] [.int s0, .ref 0] w = p_bnd scr 69 6 9 [.ref 0, .int x1] [] (p_ev none 79 0 [.ref 0, .int s0] [] w)) ∧
  (∀ (scr : pX) (w : pW) (x1 : Int32), p_ev scr 69 9 [.ref 0, .int x1] [] w = p_ev scr 69 10 [.ref 0, .int x1] [.ref 0] w) ∧
  (∀ (scr : pX) (w : pW) (x1 : Int32), p_ev scr 69 10 [.ref 0, .int x1] [.ref 0] w = p_bnd scr 69 10 13 [.ref 0, .int x1] [] (p_ev none 90 0 [.ref 0] [] w)) ∧
  (∀ (scr : pX) (w : pW) (x1 : Int32), p_ev scr 69 13 [.ref 0, .int x1] [] w = p_ev scr 69 14 [.ref 0, .int x1] [.ref 0] w) ∧
  (∀ (scr : pX) (w : pW) (x1 : Int32), p_ev scr 69 14 [.ref 0, .int x1] [.ref 0] w = p_bnd scr 69 14 17 [.ref 0, .int x1] [] (p_ev none 87 0 [.ref 0] [] w)) ∧
  (∀ (scr : pX) (w : pW) (x1 : Int32), p_ev scr 69 17 [.ref 0, .int x1] [] w = p_ev scr 69 18 [.ref 0, .int x1] [.ref 0] w) ∧
  (∀ (scr : pX) (w : pW) (x1 : Int32), p_ev scr 69 18 [.ref 0, .int x1] [.ref 0] w = p_ev scr 69 19 [.ref 0, .int x1] [.int x1, .ref 0] w) ∧
  (∀ (scr : pX) (w : pW) (x1 : Int32) (s0 : Int32), p_ev scr 69 19 [.ref 0, .int x1] [.int s0, .ref 0] w = p_bnd scr 69 19 22 [.ref 0, .int x1] [] (p_ev none 91 0 [.ref 0, .int s0, p_U] [] w)) ∧
  (∀ (scr : pX) (w : pW) (x1 : Int32), p_ev scr 69 22 [.ref 0, .int x1] [] w = p_ev scr 69 23 [.ref 0, .int x1] [.ref 0] w) ∧
  (∀ (scr : pX) (w : pW) (x1 : Int32), p_ev scr 69 23 [.ref 0, .int x1] [.ref 0] w = p_bnd scr 69 23 26 [.ref 0, .int x1] [] (p_ev none 92 0 [.ref 0] [] w)) ∧
  (∀ (scr : pX) (w : pW) (x1 : Int32), p_ev scr 69 26 [.ref 0, .int x1] [] w = p_ev scr 69 27 [.ref 0, .int x1] [.ref 0] w) ∧
  (∀ (scr : pX) (w : pW) (x1 : Int32), p_ev scr 69 27 [.ref 0, .int x1] [.ref 0] w = p_bnd scr 69 27 30 [.ref 0, .int x1] [] (p_ev none 93 0 [.ref 0, p_U, p_U, p_U] [] w)) ∧
  (∀ (scr : pX) (w : pW) (x1 : Int32) (t0 : Int64), p_ev scr 69 30 [.ref 0, .int x1] [.long t0] w = some (.inl (some (.long t0)), w, 0)) :=
  ⟨fun _ _ _ => p_r (by decide +kernel : p_at 69 0 = some (.aload_n 0)) rfl,
  fun _ _ _ => p_rcv (nl := 1) (by decide +kernel : p_at 69 1 = some (.invokevirtual 184)) (by decide +kernel : p_inv (p_own 69) 184 = some (1, 74, 1)) (by decide +kernel) (rfl : p_ob 0 = some (.inr (4, [some 1, some 2, some 4, some 3, some 5, some 6, some 7, some 19]))) rfl rfl (Nat.le_of_ble_eq_true rfl) (Nat.le_of_ble_eq_true rfl) (Nat.le_of_ble_eq_true rfl) rfl,
  fun _ _ _ => p_r (by decide +kernel : p_at 69 4 = some (.aload_n 0)) rfl,
  fun _ _ _ => p_r (by decide +kernel : p_at 69 5 = some (.iload_n 1)) rfl,
  fun _ _ _ _ => p_rcv (nl := 2) (by decide +kernel : p_at 69 6 = some (.invokevirtual 198)) (by decide +kernel : p_inv (p_own 69) 198 = some (1, 79, 2)) (by decide +kernel) (rfl : p_ob 0 = some (.inr (4, [some 1, some 2, some 4, some 3, some 5, some 6, some 7, some 19]))) rfl rfl (Nat.le_of_ble_eq_true rfl) (Nat.le_of_ble_eq_true rfl) (Nat.le_of_ble_eq_true rfl) rfl,
  fun _ _ _ => p_r (by decide +kernel : p_at 69 9 = some (.aload_n 0)) rfl,
  fun _ _ _ => p_rcv (nl := 1) (by decide +kernel : p_at 69 10 = some (.invokevirtual 187)) (by decide +kernel : p_inv (p_own 69) 187 = some (1, 90, 1)) (by decide +kernel) (rfl : p_ob 0 = some (.inr (4, [some 1, some 2, some 4, some 3, some 5, some 6, some 7, some 19]))) rfl rfl (Nat.le_of_ble_eq_true rfl) (Nat.le_of_ble_eq_true rfl) (Nat.le_of_ble_eq_true rfl) rfl,
  fun _ _ _ => p_r (by decide +kernel : p_at 69 13 = some (.aload_n 0)) rfl,
  fun _ _ _ => p_rcv (nl := 1) (by decide +kernel : p_at 69 14 = some (.invokevirtual 84)) (by decide +kernel : p_inv (p_own 69) 84 = some (1, 87, 1)) (by decide +kernel) (rfl : p_ob 0 = some (.inr (4, [some 1, some 2, some 4, some 3, some 5, some 6, some 7, some 19]))) rfl rfl (Nat.le_of_ble_eq_true rfl) (Nat.le_of_ble_eq_true rfl) (Nat.le_of_ble_eq_true rfl) rfl,
  fun _ _ _ => p_r (by decide +kernel : p_at 69 17 = some (.aload_n 0)) rfl,
  fun _ _ _ => p_r (by decide +kernel : p_at 69 18 = some (.iload_n 1)) rfl,
  fun _ _ _ _ => p_rcv (nl := 3) (by decide +kernel : p_at 69 19 = some (.invokevirtual 201)) (by decide +kernel : p_inv (p_own 69) 201 = some (1, 91, 2)) (by decide +kernel) (rfl : p_ob 0 = some (.inr (4, [some 1, some 2, some 4, some 3, some 5, some 6, some 7, some 19]))) rfl rfl (Nat.le_of_ble_eq_true rfl) (Nat.le_of_ble_eq_true rfl) (Nat.le_of_ble_eq_true rfl) rfl,
  fun _ _ _ => p_r (by decide +kernel : p_at 69 22 = some (.aload_n 0)) rfl,
  fun _ _ _ => p_rcv (nl := 1) (by decide +kernel : p_at 69 23 = some (.invokevirtual 204)) (by decide +kernel : p_inv (p_own 69) 204 = some (1, 92, 1)) (by decide +kernel) (rfl : p_ob 0 = some (.inr (4, [some 1, some 2, some 4, some 3, some 5, some 6, some 7, some 19]))) rfl rfl (Nat.le_of_ble_eq_true rfl) (Nat.le_of_ble_eq_true rfl) (Nat.le_of_ble_eq_true rfl) rfl,
  fun _ _ _ => p_r (by decide +kernel : p_at 69 26 = some (.aload_n 0)) rfl,
  fun _ _ _ => p_rcv (nl := 4) (by decide +kernel : p_at 69 27 = some (.invokevirtual 207)) (by decide +kernel : p_inv (p_own 69) 207 = some (1, 93, 1)) (by decide +kernel) (rfl : p_ob 0 = some (.inr (4, [some 1, some 2, some 4, some 3, some 5, some 6, some 7, some 19]))) rfl rfl (Nat.le_of_ble_eq_true rfl) (Nat.le_of_ble_eq_true rfl) (Nat.le_of_ble_eq_true rfl) rfl,
  fun _ _ _ _ => p_rlret (by decide +kernel : p_at 69 30 = some (.lreturn)) (by decide +kernel)⟩
-- 70: bitsFor
theorem M70 :
  (∀ (scr : pX) (w : pW) (x1 : Int32), p_ev scr 70 0 [.ref 0, .int x1, p_U, p_U, p_U] [] w = p_ev scr 70 1 [.ref 0, .int x1, p_U, p_U, p_U] [.ref 0] w) ∧
  (∀ (scr : pX) (w : pW) (x1 : Int32), p_ev scr 70 1 [.ref 0, .int x1, p_U, p_U, p_U] [.ref 0] w = p_bnd scr 70 1 4 [.ref 0, .int x1, p_U, p_U, p_U] [] (p_ev none 74 0 [.ref 0] [] w)) ∧
  (∀ (scr : pX) (w : pW) (x1 : Int32), p_ev scr 70 4 [.ref 0, .int x1, p_U, p_U, p_U] [] w = p_ev scr 70 5 [.ref 0, .int x1, p_U, p_U, p_U] [.ref 0] w) ∧
  (∀ (scr : pX) (w : pW) (x1 : Int32), p_ev scr 70 5 [.ref 0, .int x1, p_U, p_U, p_U] [.ref 0] w = p_ev scr 70 6 [.ref 0, .int x1, p_U, p_U, p_U] [.int x1, .ref 0] w) ∧
  (∀ (scr : pX) (w : pW) (x1 : Int32) (s0 : Int32), p_ev scr 70 6 [.ref 0, .int x1, p_U, p_U, p_U] [.int s0, .ref 0] w = p_bnd scr 70 6 9 [.ref 0, .int x1, p_U, p_U, p_U] [] (p_ev none 79 0 [.ref 0, .int s0] [] w)) ∧
  (∀ (scr : pX) (w : pW) (x1 : Int32), p_ev scr 70 9 [.ref 0, .int x1, p_U, p_U, p_U] [] w = p_ev scr 70 10 [.ref 0, .int x1, p_U, p_U, p_U] [.ref 0] w) ∧
  (∀ (scr : pX) (w : pW) (x1 : Int32), p_ev scr 70 10 [.ref 0, .int x1, p_U, p_U, p_U] [.ref 0] w = p_bnd scr 70 10 13 [.ref 0, .int x1, p_U, p_U, p_U] [] (p_ev none 90 0 [.ref 0] [] w)) ∧
  (∀ (scr : pX) (w : pW) (x1 : Int32), p_ev scr 70 13 [.ref 0, .int x1, p_U, p_U, p_U] [] w = p_ev scr 70 14 [.ref 0, .int x1, p_U, p_U, p_U] [.ref 0] w) ∧
  (∀ (scr : pX) (w : pW) (x1 : Int32), p_ev scr 70 14 [.ref 0, .int x1, p_U, p_U, p_U] [.ref 0] w = p_bnd scr 70 14 17 [.ref 0, .int x1, p_U, p_U, p_U] [] (p_ev none 87 0 [.ref 0] [] w)) ∧
  (∀ (scr : pX) (w : pW) (x1 : Int32), p_ev scr 70 17 [.ref 0, .int x1, p_U, p_U, p_U] [] w = p_ev scr 70 18 [.ref 0, .int x1, p_U, p_U, p_U] [.ref 0] w) ∧
  (∀ (scr : pX) (w : pW) (x1 : Int32), p_ev scr 70 18 [.ref 0, .int x1, p_U, p_U, p_U] [.ref 0] w = p_ev scr 70 19 [.ref 0, .int x1, p_U, p_U, p_U] [.int (nI 0), .ref 0] w) ∧
  (∀ (scr : pX) (w : pW) (x1 : Int32) (s0 : Int32), p_ev scr 70 19 [.ref 0, .int x1, p_U, p_U, p_U] [.int s0, .ref 0] w = p_bnd scr 70 19 22 [.ref 0, .int x1, p_U, p_U, p_U] [] (p_ev none 91 0 [.ref 0, .int s0, p_U] [] w)) ∧
  (∀ (scr : pX) (w : pW) (x1 : Int32), p_ev scr 70 22 [.ref 0, .int x1, p_U, p_U, p_U] [] w = p_ev scr 70 23 [.ref 0, .int x1, p_U, p_U, p_U] [.ref 0] w) ∧
  (∀ (scr : pX) (w : pW) (x1 : Int32), p_ev scr 70 23 [.ref 0, .int x1, p_U, p_U, p_U] [.ref 0] w = p_bnd scr 70 23 26 [.ref 0, .int x1, p_U, p_U, p_U] [] (p_ev none 92 0 [.ref 0] [] w)) ∧
  (∀ (scr : pX) (w : pW) (x1 : Int32), p_ev scr 70 26 [.ref 0, .int x1, p_U, p_U, p_U] [] w = p_ev scr 70 27 [.ref 0, .int x1, p_U, p_U, p_U] [.ref 0] w) ∧
  (∀ (scr : pX) (w : pW) (x1 : Int32), p_ev scr 70 27 [.ref 0, .int x1, p_U, p_U, p_U] [.ref 0] w = p_bnd scr 70 27 30 [.ref 0, .int x1, p_U, p_U, p_U] [] (p_ev none 93 0 [.ref 0, p_U, p_U, p_U] [] w)) ∧
  (∀ (scr : pX) (w : pW) (x1 : Int32) (t0 : Int64), p_ev scr 70 30 [.ref 0, .int x1, p_U, p_U, p_U] [.long t0] w = p_ev scr 70 31 [.ref 0, .int x1, .long t0, p_U, p_U] [] w) ∧
  (∀ (scr : pX) (w : pW) (x1 : Int32) (y2 : Int64), p_ev scr 70 31 [.ref 0, .int x1, .long y2, p_U, p_U] [] w = p_ev scr 70 32 [.ref 0, .int x1, .long y2, p_U, p_U] [.int (nI 0)] w) ∧
  (∀ (scr : pX) (w : pW) (x1 : Int32) (y2 : Int64) (s0 : Int32), p_ev scr 70 32 [.ref 0, .int x1, .long y2, p_U, p_U] [.int s0] w = p_ev scr 70 34 [.ref 0, .int x1, .long y2, p_U, .int s0] [] w) ∧
  (∀ (scr : pX) (w : pW) (x1 : Int32) (y2 : Int64) (x4 : Int32) (s0 : Int32), p_ev scr 70 36 [.ref 0, .int x1, .long y2, p_U, .int x4] [.int s0] w = p_ev scr 70 37 [.ref 0, .int x1, .long y2, p_U, .int x4] [.ref 0, .int s0] w) ∧
  (∀ (scr : pX) (w : pW) (x1 : Int32) (y2 : Int64) (x4 : Int32) (s1 : Int32), p_ev scr 70 37 [.ref 0, .int x1, .long y2, p_U, .int x4] [.ref 0, .int s1] w = p_ev scr 70 40 [.ref 0, .int x1, .long y2, p_U, .int x4] [.ref 3, .int s1] w) ∧
  (∀ (scr : pX) (w : pW) (x1 : Int32) (y2 : Int64) (x4 : Int32) (s1 : Int32), p_ev scr 70 40 [.ref 0, .int x1, .long y2, p_U, .int x4] [.ref 3, .int s1] w = p_bnd scr 70 40 43 [.ref 0, .int x1, .long y2, p_U, .int x4] [.int s1] (p_ev none 1 0 [.ref 3] [] w)) ∧
  (∀ (scr : pX) (w : pW) (x1 : Int32) (y2 : Int64) (x4 : Int32) (s0 : Int32) (s1 : Int32), p_ev scr 70 43 [.ref 0, .int x1, .long y2, p_U, .int x4] [.int s0, .int s1] w = if s0 ≤ s1 then p_ev scr 70 84 [.ref 0, .int x1, .long y2, p_U, .int x4] [] w else p_ev scr 70 46 [.ref 0, .int x1, .long y2, p_U, .int x4] [] w) ∧
  (∀ (scr : pX) (w : pW) (x1 : Int32) (y2 : Int64) (x4 : Int32), p_ev scr 70 46 [.ref 0, .int x1, .long y2, p_U, .int x4] [] w = p_ev scr 70 47 [.ref 0, .int x1, .long y2, p_U, .int x4] [.long y2] w) ∧
  (∀ (scr : pX) (w : pW) (x1 : Int32) (y2 : Int64) (x4 : Int32) (t0 : Int64), p_ev scr 70 47 [.ref 0, .int x1, .long y2, p_U, .int x4] [.long t0] w = p_ev scr 70 48 [.ref 0, .int x1, .long y2, p_U, .int x4] [.int x1, .long t0] w) ∧
  (∀ (scr : pX) (w : pW) (x1 : Int32) (y2 : Int64) (x4 : Int32) (s0 : Int32) (t1 : Int64), p_ev scr 70 48 [.ref 0, .int x1, .long y2, p_U, .int x4] [.int s0, .long t1] w = p_ev scr 70 49 [.ref 0, .int x1, .long y2, p_U, .int x4] [.long s0.toInt64, .long t1] w) ∧
  (∀ (scr : pX) (w : pW) (x1 : Int32) (y2 : Int64) (x4 : Int32) (t0 : Int64) (t1 : Int64), p_ev scr 70 49 [.ref 0, .int x1, .long y2, p_U, .int x4] [.long t0, .long t1] w = p_ev scr 70 50 [.ref 0, .int x1, .long y2, p_U, .int x4] [.int (lg_cmp t1 t0)] w) ∧
  (∀ (scr : pX) (w : pW) (x1 : Int32) (y2 : Int64) (x4 : Int32) (s0 : Int32), p_ev scr 70 50 [.ref 0, .int x1, .long y2, p_U, .int x4] [.int s0] w = if s0 ≤ nI 0 then p_ev scr 70 84 [.ref 0, .int x1, .long y2, p_U, .int x4] [] w else p_ev scr 70 53 [.ref 0, .int x1, .long y2, p_U, .int x4] [] w) ∧
  (∀ (scr : pX) (w : pW) (x1 : Int32) (y2 : Int64) (x4 : Int32), p_ev scr 70 53 [.ref 0, .int x1, .long y2, p_U, .int x4] [] w = p_ev scr 70 54 [.ref 0, .int x1, .long y2, p_U, .int x4] [.ref 0] w) ∧
  (∀ (scr : pX) (w : pW) (x1 : Int32) (y2 : Int64) (x4 : Int32), p_ev scr 70 54 [.ref 0, .int x1, .long y2, p_U, .int x4] [.ref 0] w = p_ev scr 70 57 [.ref 0, .int x1, .long y2, p_U, .int x4] [.ref 3] w) ∧
  (∀ (scr : pX) (w : pW) (x1 : Int32) (y2 : Int64) (x4 : Int32), p_ev scr 70 57 [.ref 0, .int x1, .long y2, p_U, .int x4] [.ref 3] w = p_ev scr 70 59 [.ref 0, .int x1, .long y2, p_U, .int x4] [.int x4, .ref 3] w) ∧
  (∀ (scr : pX) (w : pW) (x1 : Int32) (y2 : Int64) (x4 : Int32) (s0 : Int32), p_ev scr 70 59 [.ref 0, .int x1, .long y2, p_U, .int x4] [.int s0, .ref 3] w = p_ev scr 70 60 [.ref 0, .int x1, .long y2, p_U, .int x4] [.ref 0, .int s0, .ref 3] w) ∧
  (∀ (scr : pX) (w : pW) (x1 : Int32) (y2 : Int64) (x4 : Int32) (s1 : Int32), p_ev scr 70 60 [.ref 0, .int x1, .long y2, p_U, .int x4] [.ref 0, .int s1, .ref 3] w = p_ev scr 70 63 [.ref 0, .int x1, .long y2, p_U, .int x4] [.ref 6, .int s1, .ref 3] w) ∧
  (∀ (scr : pX) (w : pW) (x1 : Int32) (y2 : Int64) (x4 : Int32) (s1 : Int32), p_ev scr 70 63 [.ref 0, .int x1, .long y2, p_U, .int x4] [.ref 6, .int s1, .ref 3] w = p_bnd scr 70 63 66 [.ref 0, .int x1, .long y2, p_U, .int x4] [] (p_ev none 4 0 [.ref 3, .int s1, .ref 6, p_U] [] w)) ∧
  (∀ (scr : pX) (w : pW) (x1 : Int32) (y2 : Int64) (x4 : Int32) (s0 : Int32), p_ev scr 70 66 [.ref 0, .int x1, .long y2, p_U, .int x4] [.int s0] w = if s0 = nI 0 then p_ev scr 70 78 [.ref 0, .int x1, .long y2, p_U, .int x4] [] w else p_ev scr 70 69 [.ref 0, .int x1, .long y2, p_U, .int x4] [] w) ∧
  (∀ (scr : pX) (w : pW) (x1 : Int32) (y2 : Int64) (x4 : Int32), p_ev scr 70 69 [.ref 0, .int x1, .long y2, p_U, .int x4] [] w = p_ev scr 70 70 [.ref 0, .int x1, .long y2, p_U, .int x4] [.ref 0] w) ∧
  (∀ (scr : pX) (w : pW) (x1 : Int32) (y2 : Int64) (x4 : Int32), p_ev scr 70 70 [.ref 0, .int x1, .long y2, p_U, .int x4] [.ref 0] w = p_bnd scr 70 70 73 [.ref 0, .int x1, .long y2, p_U, .int x4] [] (p_ev none 92 0 [.ref 0] [] w)) ∧
  (∀ (scr : pX) (w : pW) (x1 : Int32) (y2 : Int64) (x4 : Int32), p_ev scr 70 73 [.ref 0, .int x1, .long y2, p_U, .int x4] [] w = p_ev scr 70 74 [.ref 0, .int x1, .long y2, p_U, .int x4] [.ref 0] w) ∧
  (∀ (scr : pX) (w : pW) (x1 : Int32) (y2 : Int64) (x4 : Int32), p_ev scr 70 74 [.ref 0, .int x1, .long y2, p_U, .int x4] [.ref 0] w = p_bnd scr 70 74 77 [.ref 0, .int x1, .long y2, p_U, .int x4] [] (p_ev none 93 0 [.ref 0, p_U, p_U, p_U] [] w)) ∧
  (∀ (scr : pX) (w : pW) (x1 : Int32) (y2 : Int64) (x4 : Int32) (t0 : Int64), p_ev scr 70 77 [.ref 0, .int x1, .long y2, p_U, .int x4] [.long t0] w = p_ev scr 70 78 [.ref 0, .int x1, .long t0, p_U, .int x4] [] w) ∧
  (∀ (scr : pX) (w : pW) (x1 : Int32) (y2 : Int64) (x4 : Int32), p_ev scr 70 78 [.ref 0, .int x1, .long y2, p_U, .int x4] [] w = p_ev scr 70 81 [.ref 0, .int x1, .long y2, p_U, .int (x4 + (nI 1))] [] w) ∧
  (∀ (scr : pX) (w : pW) (x1 : Int32) (y2 : Int64) (x4 : Int32), p_ev scr 70 81 [.ref 0, .int x1, .long y2, p_U, .int x4] [] w = p_ev scr 70 34 [.ref 0, .int x1, .long y2, p_U, .int x4] [] w) ∧
  (∀ (scr : pX) (w : pW) (x1 : Int32) (y2 : Int64) (x4 : Int32), p_ev scr 70 84 [.ref 0, .int x1, .long y2, p_U, .int x4] [] w = p_ev scr 70 86 [.ref 0, .int x1, .long y2, p_U, .int x4] [.int x4] w) ∧
  (∀ (scr : pX) (w : pW) (x1 : Int32) (y2 : Int64) (x4 : Int32) (s0 : Int32), p_ev scr 70 86 [.ref 0, .int x1, .long y2, p_U, .int x4] [.int s0] w = some (.inl (some (.int s0)), w, 0)) :=
  ⟨fun _ _ _ => p_r (by decide +kernel : p_at 70 0 = some (.aload_n 0)) rfl,
  fun _ _ _ => p_rcv (nl := 1) (by decide +kernel : p_at 70 1 = some (.invokevirtual 184)) (by decide +kernel : p_inv (p_own 70) 184 = some (1, 74, 1)) (by decide +kernel) (rfl : p_ob 0 = some (.inr (4, [some 1, some 2, some 4, some 3, some 5, some 6, some 7, some 19]))) rfl rfl (Nat.le_of_ble_eq_true rfl) (Nat.le_of_ble_eq_true rfl) (Nat.le_of_ble_eq_true rfl) rfl,
  fun _ _ _ => p_r (by decide +kernel : p_at 70 4 = some (.aload_n 0)) rfl,
  fun _ _ _ => p_r (by decide +kernel : p_at 70 5 = some (.iload_n 1)) rfl,
  fun _ _ _ _ => p_rcv (nl := 2) (by decide +kernel : p_at 70 6 = some (.invokevirtual 198)) (by decide +kernel : p_inv (p_own 70) 198 = some (1, 79, 2)) (by decide +kernel) (rfl : p_ob 0 = some (.inr (4, [some 1, some 2, some 4, some 3, some 5, some 6, some 7, some 19]))) rfl rfl (Nat.le_of_ble_eq_true rfl) (Nat.le_of_ble_eq_true rfl) (Nat.le_of_ble_eq_true rfl) rfl,
  fun _ _ _ => p_r (by decide +kernel : p_at 70 9 = some (.aload_n 0)) rfl,
  fun _ _ _ => p_rcv (nl := 1) (by decide +kernel : p_at 70 10 = some (.invokevirtual 187)) (by decide +kernel : p_inv (p_own 70) 187 = some (1, 90, 1)) (by decide +kernel) (rfl : p_ob 0 = some (.inr (4, [some 1, some 2, some 4, some 3, some 5, some 6, some 7, some 19]))) rfl rfl (Nat.le_of_ble_eq_true rfl) (Nat.le_of_ble_eq_true rfl) (Nat.le_of_ble_eq_true rfl) rfl,
  fun _ _ _ => p_r (by decide +kernel : p_at 70 13 = some (.aload_n 0)) rfl,
  fun _ _ _ => p_rcv (nl := 1) (by decide +kernel : p_at 70 14 = some (.invokevirtual 84)) (by decide +kernel : p_inv (p_own 70) 84 = some (1, 87, 1)) (by decide +kernel) (rfl : p_ob 0 = some (.inr (4, [some 1, some 2, some 4, some 3, some 5, some 6, some 7, some 19]))) rfl rfl (Nat.le_of_ble_eq_true rfl) (Nat.le_of_ble_eq_true rfl) (Nat.le_of_ble_eq_true rfl) rfl,
  fun _ _ _ => p_r (by decide +kernel : p_at 70 17 = some (.aload_n 0)) rfl,
  fun _ _ _ => p_r (by decide +kernel : p_at 70 18 = some (.iconst 0)) rfl,
  fun _ _ _ _ => p_rcv (nl := 3) (by decide +kernel : p_at 70 19 = some (.invokevirtual 201)) (by decide +kernel : p_inv (p_own 70) 201 = some (1, 91, 2)) (by decide +kernel) (rfl : p_ob 0 = some (.inr (4, [some 1, some 2, some 4, some 3, some 5, some 6, some 7, some 19]))) rfl rfl (Nat.le_of_ble_eq_true rfl) (Nat.le_of_ble_eq_true rfl) (Nat.le_of_ble_eq_true rfl) rfl,
  fun _ _ _ => p_r (by decide +kernel : p_at 70 22 = some (.aload_n 0)) rfl,
  fun _ _ _ => p_rcv (nl := 1) (by decide +kernel : p_at 70 23 = some (.invokevirtual 204)) (by decide +kernel : p_inv (p_own 70) 204 = some (1, 92, 1)) (by decide +kernel) (rfl : p_ob 0 = some (.inr (4, [some 1, some 2, some 4, some 3, some 5, some 6, some 7, some 19]))) rfl rfl (Nat.le_of_ble_eq_true rfl) (Nat.le_of_ble_eq_true rfl) (Nat.le_of_ble_eq_true rfl) rfl,
  fun _ _ _ => p_r (by decide +kernel : p_at 70 26 = some (.aload_n 0)) rfl,
  fun _ _ _ => p_rcv (nl := 4) (by decide +kernel : p_at 70 27 = some (.invokevirtual 207)) (by decide +kernel : p_inv (p_own 70) 207 = some (1, 93, 1)) (by decide +kernel) (rfl : p_ob 0 = some (.inr (4, [some 1, some 2, some 4, some 3, some 5, some 6, some 7, some 19]))) rfl rfl (Nat.le_of_ble_eq_true rfl) (Nat.le_of_ble_eq_true rfl) (Nat.le_of_ble_eq_true rfl) rfl,
  fun _ _ _ _ => p_r (by decide +kernel : p_at 70 30 = some (.lstore_n 2)) rfl,
  fun _ _ _ _ => p_r (by decide +kernel : p_at 70 31 = some (.iconst 0)) rfl,
  fun _ _ _ _ _ => p_r (by decide +kernel : p_at 70 32 = some (.istore 4)) rfl,
  fun _ _ _ _ _ _ => p_r (by decide +kernel : p_at 70 36 = some (.aload_n 0)) rfl,
  fun _ _ _ _ _ _ => p_rgf (f := some 3) (by decide +kernel : p_at 70 37 = some (.getfield 33)) (by decide +kernel : p_fld (p_own 70) 33 = some (4, 3)) (rfl : p_ob 0 = some (.inr (4, [some 1, some 2, some 4, some 3, some 5, some 6, some 7, some 19]))) rfl,
  fun _ _ _ _ _ _ => p_rcv (nl := 1) (by decide +kernel : p_at 70 40 = some (.invokevirtual 190)) (by decide +kernel : p_inv (p_own 70) 190 = some (1, 1, 1)) (by decide +kernel) (rfl : p_ob 3 = some (.inr (0, [some 9, some 10, some 20, some 21, some 22, none, none, none]))) rfl rfl (Nat.le_of_ble_eq_true rfl) (Nat.le_of_ble_eq_true rfl) (Nat.le_of_ble_eq_true rfl) rfl,
  fun _ _ _ _ _ _ _ => p_rb2 (c := fun x y => decide (y ≤ x)) (off := 41) (by decide +kernel : p_at 70 43 = some (.if_icmp .ge 41)) (by decide +kernel) rfl rfl rfl,
  fun _ _ _ _ _ => p_r (by decide +kernel : p_at 70 46 = some (.lload_n 2)) rfl,
  fun _ _ _ _ _ _ => p_r (by decide +kernel : p_at 70 47 = some (.iload_n 1)) rfl,
  fun _ _ _ _ _ _ _ => p_r (by decide +kernel : p_at 70 48 = some (.i2l)) rfl,
  fun _ _ _ _ _ _ _ => p_r (by decide +kernel : p_at 70 49 = some (.lcmp)) rfl,
  fun _ _ _ _ _ _ => p_rb1 (c := fun x => decide (x ≤ 0)) (off := 34) (by decide +kernel : p_at 70 50 = some (.ifCond .le 34)) (by decide +kernel) rfl rfl rfl,
  fun _ _ _ _ _ => p_r (by decide +kernel : p_at 70 53 = some (.aload_n 0)) rfl,
  fun _ _ _ _ _ => p_rgf (f := some 3) (by decide +kernel : p_at 70 54 = some (.getfield 33)) (by decide +kernel : p_fld (p_own 70) 33 = some (4, 3)) (rfl : p_ob 0 = some (.inr (4, [some 1, some 2, some 4, some 3, some 5, some 6, some 7, some 19]))) rfl,
  fun _ _ _ _ _ => p_r (by decide +kernel : p_at 70 57 = some (.iload 4)) rfl,
  fun _ _ _ _ _ _ => p_r (by decide +kernel : p_at 70 59 = some (.aload_n 0)) rfl,
  fun _ _ _ _ _ _ => p_rgf (f := some 6) (by decide +kernel : p_at 70 60 = some (.getfield 40)) (by decide +kernel : p_fld (p_own 70) 40 = some (4, 5)) (rfl : p_ob 0 = some (.inr (4, [some 1, some 2, some 4, some 3, some 5, some 6, some 7, some 19]))) rfl,
  fun _ _ _ _ _ _ => p_rcv (nl := 4) (by decide +kernel : p_at 70 63 = some (.invokevirtual 211)) (by decide +kernel : p_inv (p_own 70) 211 = some (1, 4, 3)) (by decide +kernel) (rfl : p_ob 3 = some (.inr (0, [some 9, some 10, some 20, some 21, some 22, none, none, none]))) rfl rfl (Nat.le_of_ble_eq_true rfl) (Nat.le_of_ble_eq_true rfl) (Nat.le_of_ble_eq_true rfl) rfl,
  fun _ _ _ _ _ _ => p_rb1 (c := fun x => decide (x = 0)) (off := 12) (by decide +kernel : p_at 70 66 = some (.ifCond .eq 12)) (by decide +kernel) rfl rfl rfl,
  fun _ _ _ _ _ => p_r (by decide +kernel : p_at 70 69 = some (.aload_n 0)) rfl,
  fun _ _ _ _ _ => p_rcv (nl := 1) (by decide +kernel : p_at 70 70 = some (.invokevirtual 204)) (by decide +kernel : p_inv (p_own 70) 204 = some (1, 92, 1)) (by decide +kernel) (rfl : p_ob 0 = some (.inr (4, [some 1, some 2, some 4, some 3, some 5, some 6, some 7, some 19]))) rfl rfl (Nat.le_of_ble_eq_true rfl) (Nat.le_of_ble_eq_true rfl) (Nat.le_of_ble_eq_true rfl) rfl,
  fun _ _ _ _ _ => p_r (by decide +kernel : p_at 70 73 = some (.aload_n 0)) rfl,
  fun _ _ _ _ _ => p_rcv (nl := 4) (by decide +kernel : p_at 70 74 = some (.invokevirtual 207)) (by decide +kernel : p_inv (p_own 70) 207 = some (1, 93, 1)) (by decide +kernel) (rfl : p_ob 0 = some (.inr (4, [some 1, some 2, some 4, some 3, some 5, some 6, some 7, some 19]))) rfl rfl (Nat.le_of_ble_eq_true rfl) (Nat.le_of_ble_eq_true rfl) (Nat.le_of_ble_eq_true rfl) rfl,
  fun _ _ _ _ _ _ => p_r (by decide +kernel : p_at 70 77 = some (.lstore_n 2)) rfl,
  fun _ _ _ _ _ => p_r (by decide +kernel : p_at 70 78 = some (.iinc 4 1)) rfl,
  fun _ _ _ _ _ => p_rgo (by decide +kernel : p_at 70 81 = some (.goto (-47))) (by decide +kernel),
  fun _ _ _ _ _ => p_r (by decide +kernel : p_at 70 84 = some (.iload 4)) rfl,
  fun _ _ _ _ _ _ => p_riret (by decide +kernel : p_at 70 86 = some (.ireturn)) (by decide +kernel)⟩
theorem H70_34 :
  (∀ (scr : pX) (w : pW) (x1 : Int32) (y2 : Int64) (x4 : Int32), p_ev scr 70 34 [.ref 0, .int x1, .long y2, p_U, .int x4] [] w = p_ev scr 70 36 [.ref 0, .int x1, .long y2, p_U, .int x4] [.int x4] w) :=
  fun _ _ _ _ _ => p_r (by decide +kernel : p_at 70 34 = some (.iload 4)) rfl
-- 71: requireNode
theorem M71 :
  (∀ (scr : pX) (w : pW) (x1 : Int32), p_ev scr 71 0 [.ref 0, .int x1] [] w = p_ev scr 71 1 [.ref 0, .int x1] [.ref 0] w) ∧
  (∀ (scr : pX) (w : pW) (x1 : Int32), p_ev scr 71 1 [.ref 0, .int x1] [.ref 0] w = p_ev scr 71 4 [.ref 0, .int x1] [.ref 1] w) ∧
  (∀ (scr : pX) (w : pW) (x1 : Int32), p_ev scr 71 4 [.ref 0, .int x1] [.ref 1] w = p_ev scr 71 5 [.ref 0, .int x1] [.int x1, .ref 1] w) ∧
  (∀ (scr : pX) (w : pW) (x1 : Int32) (s0 : Int32), p_ev scr 71 5 [.ref 0, .int x1] [.int s0, .ref 1] w = p_bnd scr 71 5 8 [.ref 0, .int x1] [] (p_ev none 32 0 [.ref 1, .int s0] [] w)) ∧
  (∀ (scr : pX) (w : pW) (x1 : Int32) (s0 : Int32), p_ev scr 71 8 [.ref 0, .int x1] [.int s0] w = if ¬ s0 = nI 0 then p_ev scr 71 21 [.ref 0, .int x1] [] w else p_ev scr 71 11 [.ref 0, .int x1] [] w) ∧
  (∀ (scr : pX) (w : pW) (x1 : Int32), p_ev scr 71 11 [.ref 0, .int x1] [] w = some (.inr (.inl 2), w, 1)) ∧
  (∀ (scr : pX) (w : pW) (x1 : Int32), p_ev scr 71 21 [.ref 0, .int x1] [] w = some (.inl none, w, 0)) :=
  ⟨fun _ _ _ => p_r (by decide +kernel : p_at 71 0 = some (.aload_n 0)) rfl,
  fun _ _ _ => p_rgf (f := some 1) (by decide +kernel : p_at 71 1 = some (.getfield 10)) (by decide +kernel : p_fld (p_own 71) 10 = some (4, 0)) (rfl : p_ob 0 = some (.inr (4, [some 1, some 2, some 4, some 3, some 5, some 6, some 7, some 19]))) rfl,
  fun _ _ _ => p_r (by decide +kernel : p_at 71 4 = some (.iload_n 1)) rfl,
  fun _ _ _ _ => p_rcv (nl := 2) (by decide +kernel : p_at 71 5 = some (.invokevirtual 122)) (by decide +kernel : p_inv (p_own 71) 122 = some (1, 32, 2)) (by decide +kernel) (rfl : p_ob 1 = some (.inr (3, [some 18, none]))) rfl rfl (Nat.le_of_ble_eq_true rfl) (Nat.le_of_ble_eq_true rfl) (Nat.le_of_ble_eq_true rfl) rfl,
  fun _ _ _ _ => p_rb1 (c := fun x => decide (¬ x = 0)) (off := 13) (by decide +kernel : p_at 71 8 = some (.ifCond .ne 13)) (by decide +kernel) rfl rfl rfl,
  fun _ _ _ => p_rnew (by decide +kernel : p_at 71 11 = some (.new 128)) (by decide +kernel) (by decide +kernel : p_at 71 15 = some (.ldc 215)) (by decide +kernel : p_at 71 17 = some (.invokespecial 132)) (by decide +kernel) (by decide +kernel) (by decide +kernel),
  fun _ _ _ => p_rvret (by decide +kernel : p_at 71 21 = some (.return_)) (by decide +kernel)⟩
-- 72: requireLeaf
theorem M72 :
  (∀ (scr : pX) (w : pW) (x1 : Int32), p_ev scr 72 0 [.ref 0, .int x1] [] w = p_ev scr 72 1 [.ref 0, .int x1] [.ref 0] w) ∧
  (∀ (scr : pX) (w : pW) (x1 : Int32), p_ev scr 72 1 [.ref 0, .int x1] [.ref 0] w = p_ev scr 72 4 [.ref 0, .int x1] [.ref 1] w) ∧
  (∀ (scr : pX) (w : pW) (x1 : Int32), p_ev scr 72 4 [.ref 0, .int x1] [.ref 1] w = p_ev scr 72 5 [.ref 0, .int x1] [.int x1, .ref 1] w) ∧
  (∀ (scr : pX) (w : pW) (x1 : Int32) (s0 : Int32), p_ev scr 72 5 [.ref 0, .int x1] [.int s0, .ref 1] w = p_bnd scr 72 5 8 [.ref 0, .int x1] [] (p_ev none 33 0 [.ref 1, .int s0] [] w)) ∧
  (∀ (scr : pX) (w : pW) (x1 : Int32) (s0 : Int32), p_ev scr 72 8 [.ref 0, .int x1] [.int s0] w = if s0 = nI 0 then p_ev scr 72 21 [.ref 0, .int x1] [] w else p_ev scr 72 11 [.ref 0, .int x1] [] w) ∧
  (∀ (scr : pX) (w : pW) (x1 : Int32), p_ev scr 72 11 [.ref 0, .int x1] [] w = some (.inr (.inl 1), w, 1)) ∧
  (∀ (scr : pX) (w : pW) (x1 : Int32), p_ev scr 72 21 [.ref 0, .int x1] [] w = some (.inl none, w, 0)) :=
  ⟨fun _ _ _ => p_r (by decide +kernel : p_at 72 0 = some (.aload_n 0)) rfl,
  fun _ _ _ => p_rgf (f := some 1) (by decide +kernel : p_at 72 1 = some (.getfield 10)) (by decide +kernel : p_fld (p_own 72) 10 = some (4, 0)) (rfl : p_ob 0 = some (.inr (4, [some 1, some 2, some 4, some 3, some 5, some 6, some 7, some 19]))) rfl,
  fun _ _ _ => p_r (by decide +kernel : p_at 72 4 = some (.iload_n 1)) rfl,
  fun _ _ _ _ => p_rcv (nl := 2) (by decide +kernel : p_at 72 5 = some (.invokevirtual 114)) (by decide +kernel : p_inv (p_own 72) 114 = some (1, 33, 2)) (by decide +kernel) (rfl : p_ob 1 = some (.inr (3, [some 18, none]))) rfl rfl (Nat.le_of_ble_eq_true rfl) (Nat.le_of_ble_eq_true rfl) (Nat.le_of_ble_eq_true rfl) rfl,
  fun _ _ _ _ => p_rb1 (c := fun x => decide (x = 0)) (off := 13) (by decide +kernel : p_at 72 8 = some (.ifCond .eq 13)) (by decide +kernel) rfl rfl rfl,
  fun _ _ _ => p_rnew (by decide +kernel : p_at 72 11 = some (.new 102)) (by decide +kernel) (by decide +kernel : p_at 72 15 = some (.ldc 217)) (by decide +kernel : p_at 72 17 = some (.invokespecial 106)) (by decide +kernel) (by decide +kernel) (by decide +kernel),
  fun _ _ _ => p_rvret (by decide +kernel : p_at 72 21 = some (.return_)) (by decide +kernel)⟩
-- 73: requireUnsplitRoot
theorem M73 :
  (∀ (scr : pX) (w : pW), p_ev scr 73 0 [.ref 0] [] w = p_ev scr 73 1 [.ref 0] [.ref 0] w) ∧
  (∀ (scr : pX) (w : pW), p_ev scr 73 1 [.ref 0] [.ref 0] w = p_ev scr 73 4 [.ref 0] [.ref 1] w) ∧
  (∀ (scr : pX) (w : pW), p_ev scr 73 4 [.ref 0] [.ref 1] w = p_ev scr 73 5 [.ref 0] [.int (nI 1), .ref 1] w) ∧
  (∀ (scr : pX) (w : pW) (s0 : Int32), p_ev scr 73 5 [.ref 0] [.int s0, .ref 1] w = p_bnd scr 73 5 8 [.ref 0] [] (p_ev none 33 0 [.ref 1, .int s0] [] w)) ∧
  (∀ (scr : pX) (w : pW) (s0 : Int32), p_ev scr 73 8 [.ref 0] [.int s0] w = if s0 = nI 0 then p_ev scr 73 21 [.ref 0] [] w else p_ev scr 73 11 [.ref 0] [] w) ∧
  (∀ (scr : pX) (w : pW), p_ev scr 73 11 [.ref 0] [] w = some (.inr (.inl 1), w, 1)) ∧
  (∀ (scr : pX) (w : pW), p_ev scr 73 21 [.ref 0] [] w = some (.inl none, w, 0)) :=
  ⟨fun _ _ => p_r (by decide +kernel : p_at 73 0 = some (.aload_n 0)) rfl,
  fun _ _ => p_rgf (f := some 1) (by decide +kernel : p_at 73 1 = some (.getfield 10)) (by decide +kernel : p_fld (p_own 73) 10 = some (4, 0)) (rfl : p_ob 0 = some (.inr (4, [some 1, some 2, some 4, some 3, some 5, some 6, some 7, some 19]))) rfl,
  fun _ _ => p_r (by decide +kernel : p_at 73 4 = some (.iconst 1)) rfl,
  fun _ _ _ => p_rcv (nl := 2) (by decide +kernel : p_at 73 5 = some (.invokevirtual 114)) (by decide +kernel : p_inv (p_own 73) 114 = some (1, 33, 2)) (by decide +kernel) (rfl : p_ob 1 = some (.inr (3, [some 18, none]))) rfl rfl (Nat.le_of_ble_eq_true rfl) (Nat.le_of_ble_eq_true rfl) (Nat.le_of_ble_eq_true rfl) rfl,
  fun _ _ _ => p_rb1 (c := fun x => decide (x = 0)) (off := 13) (by decide +kernel : p_at 73 8 = some (.ifCond .eq 13)) (by decide +kernel) rfl rfl rfl,
  fun _ _ => p_rnew (by decide +kernel : p_at 73 11 = some (.new 102)) (by decide +kernel) (by decide +kernel : p_at 73 15 = some (.ldc 219)) (by decide +kernel : p_at 73 17 = some (.invokespecial 106)) (by decide +kernel) (by decide +kernel) (by decide +kernel),
  fun _ _ => p_rvret (by decide +kernel : p_at 73 21 = some (.return_)) (by decide +kernel)⟩
-- 74: requirePyramid
theorem M74 :
  (∀ (scr : pX) (w : pW), p_ev scr 74 0 [.ref 0] [] w = p_ev scr 74 1 [.ref 0] [.ref 0] w) ∧
  (∀ (scr : pX) (w : pW), p_ev scr 74 1 [.ref 0] [.ref 0] w = p_bnd scr 74 1 4 [.ref 0] [] (p_ev none 65 0 [.ref 0, p_U] [] w)) ∧
  (∀ (scr : pX) (w : pW) (s0 : Int32), p_ev scr 74 4 [.ref 0] [.int s0] w = if ¬ s0 = nI 0 then p_ev scr 74 17 [.ref 0] [] w else p_ev scr 74 7 [.ref 0] [] w) ∧
  (∀ (scr : pX) (w : pW), p_ev scr 74 7 [.ref 0] [] w = some (.inr (.inl 1), w, 1)) ∧
  (∀ (scr : pX) (w : pW), p_ev scr 74 17 [.ref 0] [] w = some (.inl none, w, 0)) :=
  ⟨fun _ _ => p_r (by decide +kernel : p_at 74 0 = some (.aload_n 0)) rfl,
  fun _ _ => p_rcv (nl := 2) (by decide +kernel : p_at 74 1 = some (.invokevirtual 221)) (by decide +kernel : p_inv (p_own 74) 221 = some (1, 65, 1)) (by decide +kernel) (rfl : p_ob 0 = some (.inr (4, [some 1, some 2, some 4, some 3, some 5, some 6, some 7, some 19]))) rfl rfl (Nat.le_of_ble_eq_true rfl) (Nat.le_of_ble_eq_true rfl) (Nat.le_of_ble_eq_true rfl) rfl,
  fun _ _ _ => p_rb1 (c := fun x => decide (¬ x = 0)) (off := 13) (by decide +kernel : p_at 74 4 = some (.ifCond .ne 13)) (by decide +kernel) rfl rfl rfl,
  fun _ _ => p_rnew (by decide +kernel : p_at 74 7 = some (.new 102)) (by decide +kernel) (by decide +kernel : p_at 74 11 = some (.ldc 225)) (by decide +kernel : p_at 74 13 = some (.invokespecial 106)) (by decide +kernel) (by decide +kernel) (by decide +kernel),
  fun _ _ => p_rvret (by decide +kernel : p_at 74 17 = some (.return_)) (by decide +kernel)⟩
-- 75: requirePlaceInSignal
theorem M75 :
  (∀ (scr : pX) (w : pW) (x1 : Int32), p_ev scr 75 0 [.ref 0, .int x1] [] w = p_ev scr 75 1 [.ref 0, .int x1] [.ref 0] w) ∧
  (∀ (scr : pX) (w : pW) (x1 : Int32), p_ev scr 75 1 [.ref 0, .int x1] [.ref 0] w = p_ev scr 75 2 [.ref 0, .int x1] [.int x1, .ref 0] w) ∧
  (∀ (scr : pX) (w : pW) (x1 : Int32) (s0 : Int32), p_ev scr 75 2 [.ref 0, .int x1] [.int s0, .ref 0] w = p_ev scr 75 3 [.ref 0, .int x1] [.ref 0, .int s0, .ref 0] w) ∧
  (∀ (scr : pX) (w : pW) (x1 : Int32) (s1 : Int32), p_ev scr 75 3 [.ref 0, .int x1] [.ref 0, .int s1, .ref 0] w = p_ev scr 75 6 [.ref 0, .int x1] [.ref 1, .int s1, .ref 0] w) ∧
  (∀ (scr : pX) (w : pW) (x1 : Int32) (s1 : Int32), p_ev scr 75 6 [.ref 0, .int x1] [.ref 1, .int s1, .ref 0] w = p_bnd scr 75 6 9 [.ref 0, .int x1] [.int s1, .ref 0] (p_ev none 30 0 [.ref 1] [] w)) ∧
  (∀ (scr : pX) (w : pW) (x1 : Int32) (s0 : Int32) (s1 : Int32), p_ev scr 75 9 [.ref 0, .int x1] [.int s0, .int s1, .ref 0] w = p_bnd scr 75 9 12 [.ref 0, .int x1] [] (p_ev none 76 0 [.ref 0, .int s1, .int s0] [] w)) ∧
  (∀ (scr : pX) (w : pW) (x1 : Int32), p_ev scr 75 12 [.ref 0, .int x1] [] w = some (.inl none, w, 0)) :=
  ⟨fun _ _ _ => p_r (by decide +kernel : p_at 75 0 = some (.aload_n 0)) rfl,
  fun _ _ _ => p_r (by decide +kernel : p_at 75 1 = some (.iload_n 1)) rfl,
  fun _ _ _ _ => p_r (by decide +kernel : p_at 75 2 = some (.aload_n 0)) rfl,
  fun _ _ _ _ => p_rgf (f := some 1) (by decide +kernel : p_at 75 3 = some (.getfield 10)) (by decide +kernel : p_fld (p_own 75) 10 = some (4, 0)) (rfl : p_ob 0 = some (.inr (4, [some 1, some 2, some 4, some 3, some 5, some 6, some 7, some 19]))) rfl,
  fun _ _ _ _ => p_rcv (nl := 1) (by decide +kernel : p_at 75 6 = some (.invokevirtual 57)) (by decide +kernel : p_inv (p_own 75) 57 = some (1, 30, 1)) (by decide +kernel) (rfl : p_ob 1 = some (.inr (3, [some 18, none]))) rfl rfl (Nat.le_of_ble_eq_true rfl) (Nat.le_of_ble_eq_true rfl) (Nat.le_of_ble_eq_true rfl) rfl,
  fun _ _ _ _ _ => p_rcv (nl := 3) (by decide +kernel : p_at 75 9 = some (.invokevirtual 150)) (by decide +kernel : p_inv (p_own 75) 150 = some (1, 76, 3)) (by decide +kernel) (rfl : p_ob 0 = some (.inr (4, [some 1, some 2, some 4, some 3, some 5, some 6, some 7, some 19]))) rfl rfl (Nat.le_of_ble_eq_true rfl) (Nat.le_of_ble_eq_true rfl) (Nat.le_of_ble_eq_true rfl) rfl,
  fun _ _ _ => p_rvret (by decide +kernel : p_at 75 12 = some (.return_)) (by decide +kernel)⟩
-- 76: requirePlaceBelow
theorem M76 :
  (∀ (scr : pX) (w : pW) (x1 : Int32) (x2 : Int32), p_ev scr 76 0 [.ref 0, .int x1, .int x2] [] w = p_ev scr 76 1 [.ref 0, .int x1, .int x2] [.int x1] w) ∧
  (∀ (scr : pX) (w : pW) (x1 : Int32) (x2 : Int32) (s0 : Int32), p_ev scr 76 1 [.ref 0, .int x1, .int x2] [.int s0] w = if s0 < nI 0 then p_ev scr 76 9 [.ref 0, .int x1, .int x2] [] w else p_ev scr 76 4 [.ref 0, .int x1, .int x2] [] w) ∧
  (∀ (scr : pX) (w : pW) (x1 : Int32) (x2 : Int32), p_ev scr 76 4 [.ref 0, .int x1, .int x2] [] w = p_ev scr 76 5 [.ref 0, .int x1, .int x2] [.int x1] w) ∧
  (∀ (scr : pX) (w : pW) (x1 : Int32) (x2 : Int32) (s0 : Int32), p_ev scr 76 5 [.ref 0, .int x1, .int x2] [.int s0] w = p_ev scr 76 6 [.ref 0, .int x1, .int x2] [.int x2, .int s0] w) ∧
  (∀ (scr : pX) (w : pW) (x1 : Int32) (x2 : Int32) (s0 : Int32) (s1 : Int32), p_ev scr 76 6 [.ref 0, .int x1, .int x2] [.int s0, .int s1] w = if s1 < s0 then p_ev scr 76 19 [.ref 0, .int x1, .int x2] [] w else p_ev scr 76 9 [.ref 0, .int x1, .int x2] [] w) ∧
  (∀ (scr : pX) (w : pW) (x1 : Int32) (x2 : Int32), p_ev scr 76 9 [.ref 0, .int x1, .int x2] [] w = some (.inr (.inl 2), w, 1)) ∧
  (∀ (scr : pX) (w : pW) (x1 : Int32) (x2 : Int32), p_ev scr 76 19 [.ref 0, .int x1, .int x2] [] w = some (.inl none, w, 0)) :=
  ⟨fun _ _ _ _ => p_r (by decide +kernel : p_at 76 0 = some (.iload_n 1)) rfl,
  fun _ _ _ _ _ => p_rb1 (c := fun x => decide (x < 0)) (off := 8) (by decide +kernel : p_at 76 1 = some (.ifCond .lt 8)) (by decide +kernel) rfl rfl rfl,
  fun _ _ _ _ => p_r (by decide +kernel : p_at 76 4 = some (.iload_n 1)) rfl,
  fun _ _ _ _ _ => p_r (by decide +kernel : p_at 76 5 = some (.iload_n 2)) rfl,
  fun _ _ _ _ _ _ => p_rb2 (c := fun x y => decide (x < y)) (off := 13) (by decide +kernel : p_at 76 6 = some (.if_icmp .lt 13)) (by decide +kernel) rfl rfl rfl,
  fun _ _ _ _ => p_rnew (by decide +kernel : p_at 76 9 = some (.new 128)) (by decide +kernel) (by decide +kernel : p_at 76 13 = some (.ldc 227)) (by decide +kernel : p_at 76 15 = some (.invokespecial 132)) (by decide +kernel) (by decide +kernel) (by decide +kernel),
  fun _ _ _ _ => p_rvret (by decide +kernel : p_at 76 19 = some (.return_)) (by decide +kernel)⟩
-- 77: requireThreshold
theorem M77 :
  (∀ (scr : pX) (w : pW) (x1 : Int32), p_ev scr 77 0 [.ref 0, .int x1] [] w = p_ev scr 77 1 [.ref 0, .int x1] [.int x1] w) ∧
  (∀ (scr : pX) (w : pW) (x1 : Int32) (s0 : Int32), p_ev scr 77 1 [.ref 0, .int x1] [.int s0] w = if s0 < nI 0 then p_ev scr 77 10 [.ref 0, .int x1] [] w else p_ev scr 77 4 [.ref 0, .int x1] [] w) ∧
  (∀ (scr : pX) (w : pW) (x1 : Int32), p_ev scr 77 4 [.ref 0, .int x1] [] w = p_ev scr 77 5 [.ref 0, .int x1] [.int x1] w) ∧
  (∀ (scr : pX) (w : pW) (x1 : Int32) (s0 : Int32), p_ev scr 77 5 [.ref 0, .int x1] [.int s0] w = p_ev scr 77 7 [.ref 0, .int x1] [.int (nI 100000), .int s0] w) ∧
  (∀ (scr : pX) (w : pW) (x1 : Int32) (s0 : Int32) (s1 : Int32), p_ev scr 77 7 [.ref 0, .int x1] [.int s0, .int s1] w = if s1 ≤ s0 then p_ev scr 77 20 [.ref 0, .int x1] [] w else p_ev scr 77 10 [.ref 0, .int x1] [] w) ∧
  (∀ (scr : pX) (w : pW) (x1 : Int32), p_ev scr 77 10 [.ref 0, .int x1] [] w = some (.inr (.inl 0), w, 1)) ∧
  (∀ (scr : pX) (w : pW) (x1 : Int32), p_ev scr 77 20 [.ref 0, .int x1] [] w = some (.inl none, w, 0)) :=
  ⟨fun _ _ _ => p_r (by decide +kernel : p_at 77 0 = some (.iload_n 1)) rfl,
  fun _ _ _ _ => p_rb1 (c := fun x => decide (x < 0)) (off := 9) (by decide +kernel : p_at 77 1 = some (.ifCond .lt 9)) (by decide +kernel) rfl rfl rfl,
  fun _ _ _ => p_r (by decide +kernel : p_at 77 4 = some (.iload_n 1)) rfl,
  fun _ _ _ _ => p_rldcI (by decide +kernel : p_at 77 5 = some (.ldc 158)) (by decide +kernel),
  fun _ _ _ _ _ => p_rb2 (c := fun x y => decide (x ≤ y)) (off := 13) (by decide +kernel : p_at 77 7 = some (.if_icmp .le 13)) (by decide +kernel) rfl rfl rfl,
  fun _ _ _ => p_rnew (by decide +kernel : p_at 77 10 = some (.new 50)) (by decide +kernel) (by decide +kernel : p_at 77 14 = some (.ldc 229)) (by decide +kernel : p_at 77 16 = some (.invokespecial 54)) (by decide +kernel) (by decide +kernel) (by decide +kernel),
  fun _ _ _ => p_rvret (by decide +kernel : p_at 77 20 = some (.return_)) (by decide +kernel)⟩
-- 78: requireNoise
theorem M78 :
  (∀ (scr : pX) (w : pW) (x1 : Int32), p_ev scr 78 0 [.ref 0, .int x1] [] w = p_ev scr 78 1 [.ref 0, .int x1] [.int x1] w) ∧
  (∀ (scr : pX) (w : pW) (x1 : Int32) (s0 : Int32), p_ev scr 78 1 [.ref 0, .int x1] [.int s0] w = if s0 < nI 0 then p_ev scr 78 11 [.ref 0, .int x1] [] w else p_ev scr 78 4 [.ref 0, .int x1] [] w) ∧
  (∀ (scr : pX) (w : pW) (x1 : Int32), p_ev scr 78 4 [.ref 0, .int x1] [] w = p_ev scr 78 5 [.ref 0, .int x1] [.int x1] w) ∧
  (∀ (scr : pX) (w : pW) (x1 : Int32) (s0 : Int32), p_ev scr 78 5 [.ref 0, .int x1] [.int s0] w = p_ev scr 78 8 [.ref 0, .int x1] [.int (nI 1000), .int s0] w) ∧
  (∀ (scr : pX) (w : pW) (x1 : Int32) (s0 : Int32) (s1 : Int32), p_ev scr 78 8 [.ref 0, .int x1] [.int s0, .int s1] w = if s1 ≤ s0 then p_ev scr 78 21 [.ref 0, .int x1] [] w else p_ev scr 78 11 [.ref 0, .int x1] [] w) ∧
  (∀ (scr : pX) (w : pW) (x1 : Int32), p_ev scr 78 11 [.ref 0, .int x1] [] w = some (.inr (.inl 0), w, 1)) ∧
  (∀ (scr : pX) (w : pW) (x1 : Int32), p_ev scr 78 21 [.ref 0, .int x1] [] w = some (.inl none, w, 0)) :=
  ⟨fun _ _ _ => p_r (by decide +kernel : p_at 78 0 = some (.iload_n 1)) rfl,
  fun _ _ _ _ => p_rb1 (c := fun x => decide (x < 0)) (off := 10) (by decide +kernel : p_at 78 1 = some (.ifCond .lt 10)) (by decide +kernel) rfl rfl rfl,
  fun _ _ _ => p_r (by decide +kernel : p_at 78 4 = some (.iload_n 1)) rfl,
  fun _ _ _ _ => p_r (by decide +kernel : p_at 78 5 = some (.sipush 1000)) rfl,
  fun _ _ _ _ _ => p_rb2 (c := fun x y => decide (x ≤ y)) (off := 13) (by decide +kernel : p_at 78 8 = some (.if_icmp .le 13)) (by decide +kernel) rfl rfl rfl,
  fun _ _ _ => p_rnew (by decide +kernel : p_at 78 11 = some (.new 50)) (by decide +kernel) (by decide +kernel : p_at 78 15 = some (.ldc 231)) (by decide +kernel : p_at 78 17 = some (.invokespecial 54)) (by decide +kernel) (by decide +kernel) (by decide +kernel),
  fun _ _ _ => p_rvret (by decide +kernel : p_at 78 21 = some (.return_)) (by decide +kernel)⟩
-- 79: requireNotNegative
theorem M79 :
  (∀ (scr : pX) (w : pW) (x1 : Int32), p_ev scr 79 0 [.ref 0, .int x1] [] w = p_ev scr 79 1 [.ref 0, .int x1] [.int x1] w) ∧
  (∀ (scr : pX) (w : pW) (x1 : Int32) (s0 : Int32), p_ev scr 79 1 [.ref 0, .int x1] [.int s0] w = if nI 0 ≤ s0 then p_ev scr 79 14 [.ref 0, .int x1] [] w else p_ev scr 79 4 [.ref 0, .int x1] [] w) ∧
  (∀ (scr : pX) (w : pW) (x1 : Int32), p_ev scr 79 4 [.ref 0, .int x1] [] w = some (.inr (.inl 0), w, 1)) ∧
  (∀ (scr : pX) (w : pW) (x1 : Int32), p_ev scr 79 14 [.ref 0, .int x1] [] w = some (.inl none, w, 0)) :=
  ⟨fun _ _ _ => p_r (by decide +kernel : p_at 79 0 = some (.iload_n 1)) rfl,
  fun _ _ _ _ => p_rb1 (c := fun x => decide (0 ≤ x)) (off := 13) (by decide +kernel : p_at 79 1 = some (.ifCond .ge 13)) (by decide +kernel) rfl rfl rfl,
  fun _ _ _ => p_rnew (by decide +kernel : p_at 79 4 = some (.new 50)) (by decide +kernel) (by decide +kernel : p_at 79 8 = some (.ldc 233)) (by decide +kernel : p_at 79 10 = some (.invokespecial 54)) (by decide +kernel) (by decide +kernel) (by decide +kernel),
  fun _ _ _ => p_rvret (by decide +kernel : p_at 79 14 = some (.return_)) (by decide +kernel)⟩
-- 80: splitLeaf
theorem M80 :
  (∀ (scr : pX) (w : pW) (x1 : Int32), p_ev scr 80 0 [.ref 0, .int x1] [] w = p_ev scr 80 1 [.ref 0, .int x1] [.ref 0] w) ∧
  (∀ (scr : pX) (w : pW) (x1 : Int32), p_ev scr 80 1 [.ref 0, .int x1] [.ref 0] w = p_ev scr 80 4 [.ref 0, .int x1] [.ref 2] w) ∧
  (∀ (scr : pX) (w : pW) (x1 : Int32), p_ev scr 80 4 [.ref 0, .int x1] [.ref 2] w = p_ev scr 80 5 [.ref 0, .int x1] [.ref 0, .ref 2] w) ∧
  (∀ (scr : pX) (w : pW) (x1 : Int32), p_ev scr 80 5 [.ref 0, .int x1] [.ref 0, .ref 2] w = p_ev scr 80 8 [.ref 0, .int x1] [.ref 4, .ref 2] w) ∧
  (∀ (scr : pX) (w : pW) (x1 : Int32), p_ev scr 80 8 [.ref 0, .int x1] [.ref 4, .ref 2] w = p_ev scr 80 9 [.ref 0, .int x1] [.ref 0, .ref 4, .ref 2] w) ∧
  (∀ (scr : pX) (w : pW) (x1 : Int32), p_ev scr 80 9 [.ref 0, .int x1] [.ref 0, .ref 4, .ref 2] w = p_ev scr 80 12 [.ref 0, .int x1] [.ref 1, .ref 4, .ref 2] w) ∧
  (∀ (scr : pX) (w : pW) (x1 : Int32), p_ev scr 80 12 [.ref 0, .int x1] [.ref 1, .ref 4, .ref 2] w = p_ev scr 80 13 [.ref 0, .int x1] [.int x1, .ref 1, .ref 4, .ref 2] w) ∧
  (∀ (scr : pX) (w : pW) (x1 : Int32) (s0 : Int32), p_ev scr 80 13 [.ref 0, .int x1] [.int s0, .ref 1, .ref 4, .ref 2] w = p_bnd scr 80 13 16 [.ref 0, .int x1] [.ref 4, .ref 2] (p_ev none 40 0 [.ref 1, .int s0] [] w)) ∧
  (∀ (scr : pX) (w : pW) (x1 : Int32) (s0 : Int32), p_ev scr 80 16 [.ref 0, .int x1] [.int s0, .ref 4, .ref 2] w = p_ev scr 80 17 [.ref 0, .int x1] [.ref 0, .int s0, .ref 4, .ref 2] w) ∧
  (∀ (scr : pX) (w : pW) (x1 : Int32) (s1 : Int32), p_ev scr 80 17 [.ref 0, .int x1] [.ref 0, .int s1, .ref 4, .ref 2] w = p_ev scr 80 20 [.ref 0, .int x1] [.ref 1, .int s1, .ref 4, .ref 2] w) ∧
  (∀ (scr : pX) (w : pW) (x1 : Int32) (s1 : Int32), p_ev scr 80 20 [.ref 0, .int x1] [.ref 1, .int s1, .ref 4, .ref 2] w = p_ev scr 80 21 [.ref 0, .int x1] [.int x1, .ref 1, .int s1, .ref 4, .ref 2] w) ∧
  (∀ (scr : pX) (w : pW) (x1 : Int32) (s0 : Int32) (s2 : Int32), p_ev scr 80 21 [.ref 0, .int x1] [.int s0, .ref 1, .int s2, .ref 4, .ref 2] w = p_bnd scr 80 21 24 [.ref 0, .int x1] [.int s2, .ref 4, .ref 2] (p_ev none 39 0 [.ref 1, .int s0] [] w)) ∧
  (∀ (scr : pX) (w : pW) (x1 : Int32) (s0 : Int32) (s1 : Int32), p_ev scr 80 24 [.ref 0, .int x1] [.int s0, .int s1, .ref 4, .ref 2] w = p_ev scr 80 25 [.ref 0, .int x1] [.int (nI 2), .int s0, .int s1, .ref 4, .ref 2] w) ∧
  (∀ (scr : pX) (w : pW) (x1 : Int32) (s0 : Int32) (s1 : Int32) (s2 : Int32), ¬ s0 = 0 → p_ev scr 80 25 [.ref 0, .int x1] [.int s0, .int s1, .int s2, .ref 4, .ref 2] w = p_ev scr 80 26 [.ref 0, .int x1] [.int (s1 / s0), .int s2, .ref 4, .ref 2] w) ∧
  (∀ (scr : pX) (w : pW) (x1 : Int32) (s0 : Int32) (s1 : Int32), p_ev scr 80 26 [.ref 0, .int x1] [.int s0, .int s1, .ref 4, .ref 2] w = p_bnd scr 80 26 29 [.ref 0, .int x1] [] (p_ev none 17 0 [.ref 2, .ref 4, .int s1, .int s0, p_U] [] w)) ∧
  (∀ (scr : pX) (w : pW) (x1 : Int32), p_ev scr 80 29 [.ref 0, .int x1] [] w = p_ev scr 80 30 [.ref 0, .int x1] [.ref 0] w) ∧
  (∀ (scr : pX) (w : pW) (x1 : Int32), p_ev scr 80 30 [.ref 0, .int x1] [.ref 0] w = p_ev scr 80 33 [.ref 0, .int x1] [.ref 1] w) ∧
  (∀ (scr : pX) (w : pW) (x1 : Int32), p_ev scr 80 33 [.ref 0, .int x1] [.ref 1] w = p_ev scr 80 34 [.ref 0, .int x1] [.int x1, .ref 1] w) ∧
  (∀ (scr : pX) (w : pW) (x1 : Int32) (s0 : Int32), p_ev scr 80 34 [.ref 0, .int x1] [.int s0, .ref 1] w = p_bnd scr 80 34 37 [.ref 0, .int x1] [] (p_ev none 35 0 [.ref 1, .int s0] [] w)) ∧
  (∀ (scr : pX) (w : pW) (x1 : Int32), p_ev scr 80 37 [.ref 0, .int x1] [] w = some (.inl none, w, 0)) :=
  ⟨fun _ _ _ => p_r (by decide +kernel : p_at 80 0 = some (.aload_n 0)) rfl,
  fun _ _ _ => p_rgf (f := some 2) (by decide +kernel : p_at 80 1 = some (.getfield 19)) (by decide +kernel : p_fld (p_own 80) 19 = some (4, 1)) (rfl : p_ob 0 = some (.inr (4, [some 1, some 2, some 4, some 3, some 5, some 6, some 7, some 19]))) rfl,
  fun _ _ _ => p_r (by decide +kernel : p_at 80 4 = some (.aload_n 0)) rfl,
  fun _ _ _ => p_rgf (f := some 4) (by decide +kernel : p_at 80 5 = some (.getfield 26)) (by decide +kernel : p_fld (p_own 80) 26 = some (4, 2)) (rfl : p_ob 0 = some (.inr (4, [some 1, some 2, some 4, some 3, some 5, some 6, some 7, some 19]))) rfl,
  fun _ _ _ => p_r (by decide +kernel : p_at 80 8 = some (.aload_n 0)) rfl,
  fun _ _ _ => p_rgf (f := some 1) (by decide +kernel : p_at 80 9 = some (.getfield 10)) (by decide +kernel : p_fld (p_own 80) 10 = some (4, 0)) (rfl : p_ob 0 = some (.inr (4, [some 1, some 2, some 4, some 3, some 5, some 6, some 7, some 19]))) rfl,
  fun _ _ _ => p_r (by decide +kernel : p_at 80 12 = some (.iload_n 1)) rfl,
  fun _ _ _ _ => p_rcv (nl := 2) (by decide +kernel : p_at 80 13 = some (.invokevirtual 154)) (by decide +kernel : p_inv (p_own 80) 154 = some (1, 40, 2)) (by decide +kernel) (rfl : p_ob 1 = some (.inr (3, [some 18, none]))) rfl rfl (Nat.le_of_ble_eq_true rfl) (Nat.le_of_ble_eq_true rfl) (Nat.le_of_ble_eq_true rfl) rfl,
  fun _ _ _ _ => p_r (by decide +kernel : p_at 80 16 = some (.aload_n 0)) rfl,
  fun _ _ _ _ => p_rgf (f := some 1) (by decide +kernel : p_at 80 17 = some (.getfield 10)) (by decide +kernel : p_fld (p_own 80) 10 = some (4, 0)) (rfl : p_ob 0 = some (.inr (4, [some 1, some 2, some 4, some 3, some 5, some 6, some 7, some 19]))) rfl,
  fun _ _ _ _ => p_r (by decide +kernel : p_at 80 20 = some (.iload_n 1)) rfl,
  fun _ _ _ _ _ => p_rcv (nl := 2) (by decide +kernel : p_at 80 21 = some (.invokevirtual 110)) (by decide +kernel : p_inv (p_own 80) 110 = some (1, 39, 2)) (by decide +kernel) (rfl : p_ob 1 = some (.inr (3, [some 18, none]))) rfl rfl (Nat.le_of_ble_eq_true rfl) (Nat.le_of_ble_eq_true rfl) (Nat.le_of_ble_eq_true rfl) rfl,
  fun _ _ _ _ _ => p_r (by decide +kernel : p_at 80 24 = some (.iconst 2)) rfl,
  fun _ _ _ _ _ _ hp => p_ridiv (by decide +kernel : p_at 80 25 = some (.idiv)) hp,
  fun _ _ _ _ _ => p_rcv (nl := 5) (by decide +kernel : p_at 80 26 = some (.invokevirtual 235)) (by decide +kernel : p_inv (p_own 80) 235 = some (1, 17, 4)) (by decide +kernel) (rfl : p_ob 2 = some (.inr (1, [some 8, none]))) rfl rfl (Nat.le_of_ble_eq_true rfl) (Nat.le_of_ble_eq_true rfl) (Nat.le_of_ble_eq_true rfl) rfl,
  fun _ _ _ => p_r (by decide +kernel : p_at 80 29 = some (.aload_n 0)) rfl,
  fun _ _ _ => p_rgf (f := some 1) (by decide +kernel : p_at 80 30 = some (.getfield 10)) (by decide +kernel : p_fld (p_own 80) 10 = some (4, 0)) (rfl : p_ob 0 = some (.inr (4, [some 1, some 2, some 4, some 3, some 5, some 6, some 7, some 19]))) rfl,
  fun _ _ _ => p_r (by decide +kernel : p_at 80 33 = some (.iload_n 1)) rfl,
  fun _ _ _ _ => p_rcv (nl := 2) (by decide +kernel : p_at 80 34 = some (.invokevirtual 239)) (by decide +kernel : p_inv (p_own 80) 239 = some (1, 35, 2)) (by decide +kernel) (rfl : p_ob 1 = some (.inr (3, [some 18, none]))) rfl rfl (Nat.le_of_ble_eq_true rfl) (Nat.le_of_ble_eq_true rfl) (Nat.le_of_ble_eq_true rfl) rfl,
  fun _ _ _ => p_rvret (by decide +kernel : p_at 80 37 = some (.return_)) (by decide +kernel)⟩
-- 81: joinBranch
theorem M81 :
  (∀ (scr : pX) (w : pW) (x1 : Int32), p_ev scr 81 0 [.ref 0, .int x1, p_U] [] w = p_ev scr 81 1 [.ref 0, .int x1, p_U] [.ref 0] w) ∧
  (∀ (scr : pX) (w : pW) (x1 : Int32), p_ev scr 81 1 [.ref 0, .int x1, p_U] [.ref 0] w = p_ev scr 81 2 [.ref 0, .int x1, p_U] [.ref 0, .ref 0] w) ∧
  (∀ (scr : pX) (w : pW) (x1 : Int32), p_ev scr 81 2 [.ref 0, .int x1, p_U] [.ref 0, .ref 0] w = p_ev scr 81 5 [.ref 0, .int x1, p_U] [.ref 4, .ref 0] w) ∧
  (∀ (scr : pX) (w : pW) (x1 : Int32), p_ev scr 81 5 [.ref 0, .int x1, p_U] [.ref 4, .ref 0] w = p_ev scr 81 6 [.ref 0, .int x1, p_U] [.int x1, .ref 4, .ref 0] w) ∧
  (∀ (scr : pX) (w : pW) (x1 : Int32) (s0 : Int32), p_ev scr 81 6 [.ref 0, .int x1, p_U] [.int s0, .ref 4, .ref 0] w = p_bnd scr 81 6 9 [.ref 0, .int x1, p_U] [] (p_ev none 82 0 [.ref 0, .ref 4, .int s0, p_U, p_U] [] w)) ∧
  (∀ (scr : pX) (w : pW) (x1 : Int32) (s0 : Int32), p_ev scr 81 9 [.ref 0, .int x1, p_U] [.int s0] w = p_ev scr 81 10 [.ref 0, .int x1, .int s0] [] w) ∧
  (∀ (scr : pX) (w : pW) (x1 : Int32) (x2 : Int32), p_ev scr 81 10 [.ref 0, .int x1, .int x2] [] w = p_ev scr 81 11 [.ref 0, .int x1, .int x2] [.ref 0] w) ∧
  (∀ (scr : pX) (w : pW) (x1 : Int32) (x2 : Int32), p_ev scr 81 11 [.ref 0, .int x1, .int x2] [.ref 0] w = p_ev scr 81 14 [.ref 0, .int x1, .int x2] [.ref 1] w) ∧
  (∀ (scr : pX) (w : pW) (x1 : Int32) (x2 : Int32), p_ev scr 81 14 [.ref 0, .int x1, .int x2] [.ref 1] w = p_ev scr 81 15 [.ref 0, .int x1, .int x2] [.int x1, .ref 1] w) ∧
  (∀ (scr : pX) (w : pW) (x1 : Int32) (x2 : Int32) (s0 : Int32), p_ev scr 81 15 [.ref 0, .int x1, .int x2] [.int s0, .ref 1] w = p_bnd scr 81 15 18 [.ref 0, .int x1, .int x2] [] (p_ev none 36 0 [.ref 1, .int s0, p_U] [] w)) ∧
  (∀ (scr : pX) (w : pW) (x1 : Int32) (x2 : Int32), p_ev scr 81 18 [.ref 0, .int x1, .int x2] [] w = p_ev scr 81 19 [.ref 0, .int x1, .int x2] [.int x2] w) ∧
  (∀ (scr : pX) (w : pW) (x1 : Int32) (x2 : Int32) (s0 : Int32), p_ev scr 81 19 [.ref 0, .int x1, .int x2] [.int s0] w = some (.inl (some (.int s0)), w, 0)) :=
  ⟨fun _ _ _ => p_r (by decide +kernel : p_at 81 0 = some (.aload_n 0)) rfl,
  fun _ _ _ => p_r (by decide +kernel : p_at 81 1 = some (.aload_n 0)) rfl,
  fun _ _ _ => p_rgf (f := some 4) (by decide +kernel : p_at 81 2 = some (.getfield 26)) (by decide +kernel : p_fld (p_own 81) 26 = some (4, 2)) (rfl : p_ob 0 = some (.inr (4, [some 1, some 2, some 4, some 3, some 5, some 6, some 7, some 19]))) rfl,
  fun _ _ _ => p_r (by decide +kernel : p_at 81 5 = some (.iload_n 1)) rfl,
  fun _ _ _ _ => p_rcv (nl := 5) (by decide +kernel : p_at 81 6 = some (.invokevirtual 242)) (by decide +kernel : p_inv (p_own 81) 242 = some (1, 82, 3)) (by decide +kernel) (rfl : p_ob 0 = some (.inr (4, [some 1, some 2, some 4, some 3, some 5, some 6, some 7, some 19]))) rfl rfl (Nat.le_of_ble_eq_true rfl) (Nat.le_of_ble_eq_true rfl) (Nat.le_of_ble_eq_true rfl) rfl,
  fun _ _ _ _ => p_r (by decide +kernel : p_at 81 9 = some (.istore_n 2)) rfl,
  fun _ _ _ _ => p_r (by decide +kernel : p_at 81 10 = some (.aload_n 0)) rfl,
  fun _ _ _ _ => p_rgf (f := some 1) (by decide +kernel : p_at 81 11 = some (.getfield 10)) (by decide +kernel : p_fld (p_own 81) 10 = some (4, 0)) (rfl : p_ob 0 = some (.inr (4, [some 1, some 2, some 4, some 3, some 5, some 6, some 7, some 19]))) rfl,
  fun _ _ _ _ => p_r (by decide +kernel : p_at 81 14 = some (.iload_n 1)) rfl,
  fun _ _ _ _ _ => p_rcv (nl := 3) (by decide +kernel : p_at 81 15 = some (.invokevirtual 246)) (by decide +kernel : p_inv (p_own 81) 246 = some (1, 36, 2)) (by decide +kernel) (rfl : p_ob 1 = some (.inr (3, [some 18, none]))) rfl rfl (Nat.le_of_ble_eq_true rfl) (Nat.le_of_ble_eq_true rfl) (Nat.le_of_ble_eq_true rfl) rfl,
  fun _ _ _ _ => p_r (by decide +kernel : p_at 81 18 = some (.iload_n 2)) rfl,
  fun _ _ _ _ _ => p_riret (by decide +kernel : p_at 81 19 = some (.ireturn)) (by decide +kernel)⟩
-- 82: uniteBranch
theorem M82 (r : Nat) (hr : p_rw r) :
  (∀ (scr : pX) (w : pW) (x2 : Int32), p_ev scr 82 0 [.ref 0, .ref r, .int x2, p_U, p_U] [] w = p_ev scr 82 1 [.ref 0, .ref r, .int x2, p_U, p_U] [.int (nI 0)] w) ∧
  (∀ (scr : pX) (w : pW) (x2 : Int32) (s0 : Int32), p_ev scr 82 1 [.ref 0, .ref r, .int x2, p_U, p_U] [.int s0] w = p_ev scr 82 2 [.ref 0, .ref r, .int x2, .int s0, p_U] [] w) ∧
  (∀ (scr : pX) (w : pW) (x2 : Int32) (x3 : Int32), p_ev scr 82 2 [.ref 0, .ref r, .int x2, .int x3, p_U] [] w = p_ev scr 82 4 [.ref 0, .ref r, .int x2, .int x3, p_U] [.int (nI 7)] w) ∧
  (∀ (scr : pX) (w : pW) (x2 : Int32) (x3 : Int32) (s0 : Int32), p_ev scr 82 4 [.ref 0, .ref r, .int x2, .int x3, p_U] [.int s0] w = p_ev scr 82 6 [.ref 0, .ref r, .int x2, .int x3, .int s0] [] w) ∧
  (∀ (scr : pX) (w : pW) (x2 : Int32) (x3 : Int32) (x4 : Int32) (s0 : Int32), p_ev scr 82 8 [.ref 0, .ref r, .int x2, .int x3, .int x4] [.int s0] w = p_ev scr 82 9 [.ref 0, .ref r, .int x2, .int x3, .int x4] [.int (nI 1), .int s0] w) ∧
  (∀ (scr : pX) (w : pW) (x2 : Int32) (x3 : Int32) (x4 : Int32) (s0 : Int32) (s1 : Int32), p_ev scr 82 9 [.ref 0, .ref r, .int x2, .int x3, .int x4] [.int s0, .int s1] w = if s1 < s0 then p_ev scr 82 74 [.ref 0, .ref r, .int x2, .int x3, .int x4] [] w else p_ev scr 82 12 [.ref 0, .ref r, .int x2, .int x3, .int x4] [] w) ∧
  (∀ (scr : pX) (w : pW) (x2 : Int32) (x3 : Int32) (x4 : Int32), p_ev scr 82 12 [.ref 0, .ref r, .int x2, .int x3, .int x4] [] w = p_ev scr 82 13 [.ref 0, .ref r, .int x2, .int x3, .int x4] [.ref 0] w) ∧
  (∀ (scr : pX) (w : pW) (x2 : Int32) (x3 : Int32) (x4 : Int32), p_ev scr 82 13 [.ref 0, .ref r, .int x2, .int x3, .int x4] [.ref 0] w = p_ev scr 82 16 [.ref 0, .ref r, .int x2, .int x3, .int x4] [.ref 1] w) ∧
  (∀ (scr : pX) (w : pW) (x2 : Int32) (x3 : Int32) (x4 : Int32), p_ev scr 82 16 [.ref 0, .ref r, .int x2, .int x3, .int x4] [.ref 1] w = p_ev scr 82 18 [.ref 0, .ref r, .int x2, .int x3, .int x4] [.int x4, .ref 1] w) ∧
  (∀ (scr : pX) (w : pW) (x2 : Int32) (x3 : Int32) (x4 : Int32) (s0 : Int32), p_ev scr 82 18 [.ref 0, .ref r, .int x2, .int x3, .int x4] [.int s0, .ref 1] w = p_bnd scr 82 18 21 [.ref 0, .ref r, .int x2, .int x3, .int x4] [] (p_ev none 33 0 [.ref 1, .int s0] [] w)) ∧
  (∀ (scr : pX) (w : pW) (x2 : Int32) (x3 : Int32) (x4 : Int32) (s0 : Int32), p_ev scr 82 21 [.ref 0, .ref r, .int x2, .int x3, .int x4] [.int s0] w = if s0 = nI 0 then p_ev scr 82 68 [.ref 0, .ref r, .int x2, .int x3, .int x4] [] w else p_ev scr 82 24 [.ref 0, .ref r, .int x2, .int x3, .int x4] [] w) ∧
  (∀ (scr : pX) (w : pW) (x2 : Int32) (x3 : Int32) (x4 : Int32), p_ev scr 82 24 [.ref 0, .ref r, .int x2, .int x3, .int x4] [] w = p_ev scr 82 25 [.ref 0, .ref r, .int x2, .int x3, .int x4] [.ref 0] w) ∧
  (∀ (scr : pX) (w : pW) (x2 : Int32) (x3 : Int32) (x4 : Int32), p_ev scr 82 25 [.ref 0, .ref r, .int x2, .int x3, .int x4] [.ref 0] w = p_ev scr 82 28 [.ref 0, .ref r, .int x2, .int x3, .int x4] [.ref 1] w) ∧
  (∀ (scr : pX) (w : pW) (x2 : Int32) (x3 : Int32) (x4 : Int32), p_ev scr 82 28 [.ref 0, .ref r, .int x2, .int x3, .int x4] [.ref 1] w = p_ev scr 82 30 [.ref 0, .ref r, .int x2, .int x3, .int x4] [.int x4, .ref 1] w) ∧
  (∀ (scr : pX) (w : pW) (x2 : Int32) (x3 : Int32) (x4 : Int32) (s0 : Int32), p_ev scr 82 30 [.ref 0, .ref r, .int x2, .int x3, .int x4] [.int s0, .ref 1] w = p_ev scr 82 31 [.ref 0, .ref r, .int x2, .int x3, .int x4] [.int x2, .int s0, .ref 1] w) ∧
  (∀ (scr : pX) (w : pW) (x2 : Int32) (x3 : Int32) (x4 : Int32) (s0 : Int32) (s1 : Int32), p_ev scr 82 31 [.ref 0, .ref r, .int x2, .int x3, .int x4] [.int s0, .int s1, .ref 1] w = p_bnd scr 82 31 34 [.ref 0, .ref r, .int x2, .int x3, .int x4] [] (p_ev none 37 0 [.ref 1, .int s1, .int s0, p_U] [] w)) ∧
  (∀ (scr : pX) (w : pW) (x2 : Int32) (x3 : Int32) (x4 : Int32) (s0 : Int32), p_ev scr 82 34 [.ref 0, .ref r, .int x2, .int x3, .int x4] [.int s0] w = if s0 = nI 0 then p_ev scr 82 68 [.ref 0, .ref r, .int x2, .int x3, .int x4] [] w else p_ev scr 82 37 [.ref 0, .ref r, .int x2, .int x3, .int x4] [] w) ∧
  (∀ (scr : pX) (w : pW) (x2 : Int32) (x3 : Int32) (x4 : Int32), p_ev scr 82 37 [.ref 0, .ref r, .int x2, .int x3, .int x4] [] w = p_ev scr 82 38 [.ref 0, .ref r, .int x2, .int x3, .int x4] [.ref 0] w) ∧
  (∀ (scr : pX) (w : pW) (x2 : Int32) (x3 : Int32) (x4 : Int32), p_ev scr 82 38 [.ref 0, .ref r, .int x2, .int x3, .int x4] [.ref 0] w = p_ev scr 82 41 [.ref 0, .ref r, .int x2, .int x3, .int x4] [.ref 2] w) ∧
  (∀ (scr : pX) (w : pW) (x2 : Int32) (x3 : Int32) (x4 : Int32), p_ev scr 82 41 [.ref 0, .ref r, .int x2, .int x3, .int x4] [.ref 2] w = p_ev scr 82 42 [.ref 0, .ref r, .int x2, .int x3, .int x4] [.ref r, .ref 2] w) ∧
  (∀ (scr : pX) (w : pW) (x2 : Int32) (x3 : Int32) (x4 : Int32), p_ev scr 82 42 [.ref 0, .ref r, .int x2, .int x3, .int x4] [.ref r, .ref 2] w = p_ev scr 82 43 [.ref 0, .ref r, .int x2, .int x3, .int x4] [.ref 0, .ref r, .ref 2] w) ∧
  (∀ (scr : pX) (w : pW) (x2 : Int32) (x3 : Int32) (x4 : Int32), p_ev scr 82 43 [.ref 0, .ref r, .int x2, .int x3, .int x4] [.ref 0, .ref r, .ref 2] w = p_ev scr 82 46 [.ref 0, .ref r, .int x2, .int x3, .int x4] [.ref 1, .ref r, .ref 2] w) ∧
  (∀ (scr : pX) (w : pW) (x2 : Int32) (x3 : Int32) (x4 : Int32), p_ev scr 82 46 [.ref 0, .ref r, .int x2, .int x3, .int x4] [.ref 1, .ref r, .ref 2] w = p_ev scr 82 48 [.ref 0, .ref r, .int x2, .int x3, .int x4] [.int x4, .ref 1, .ref r, .ref 2] w) ∧
  (∀ (scr : pX) (w : pW) (x2 : Int32) (x3 : Int32) (x4 : Int32) (s0 : Int32), p_ev scr 82 48 [.ref 0, .ref r, .int x2, .int x3, .int x4] [.int s0, .ref 1, .ref r, .ref 2] w = p_bnd scr 82 48 51 [.ref 0, .ref r, .int x2, .int x3, .int x4] [.ref r, .ref 2] (p_ev none 40 0 [.ref 1, .int s0] [] w)) ∧
  (∀ (scr : pX) (w : pW) (x2 : Int32) (x3 : Int32) (x4 : Int32) (s0 : Int32), p_ev scr 82 51 [.ref 0, .ref r, .int x2, .int x3, .int x4] [.int s0, .ref r, .ref 2] w = p_ev scr 82 52 [.ref 0, .ref r, .int x2, .int x3, .int x4] [.ref 0, .int s0, .ref r, .ref 2] w) ∧
  (∀ (scr : pX) (w : pW) (x2 : Int32) (x3 : Int32) (x4 : Int32) (s1 : Int32), p_ev scr 82 52 [.ref 0, .ref r, .int x2, .int x3, .int x4] [.ref 0, .int s1, .ref r, .ref 2] w = p_ev scr 82 55 [.ref 0, .ref r, .int x2, .int x3, .int x4] [.ref 1, .int s1, .ref r, .ref 2] w) ∧
  (∀ (scr : pX) (w : pW) (x2 : Int32) (x3 : Int32) (x4 : Int32) (s1 : Int32), p_ev scr 82 55 [.ref 0, .ref r, .int x2, .int x3, .int x4] [.ref 1, .int s1, .ref r, .ref 2] w = p_ev scr 82 57 [.ref 0, .ref r, .int x2, .int x3, .int x4] [.int x4, .ref 1, .int s1, .ref r, .ref 2] w) ∧
  (∀ (scr : pX) (w : pW) (x2 : Int32) (x3 : Int32) (x4 : Int32) (s0 : Int32) (s2 : Int32), p_ev scr 82 57 [.ref 0, .ref r, .int x2, .int x3, .int x4] [.int s0, .ref 1, .int s2, .ref r, .ref 2] w = p_bnd scr 82 57 60 [.ref 0, .ref r, .int x2, .int x3, .int x4] [.int s2, .ref r, .ref 2] (p_ev none 39 0 [.ref 1, .int s0] [] w)) ∧
  (∀ (scr : pX) (w : pW) (x2 : Int32) (x3 : Int32) (x4 : Int32) (s0 : Int32) (s1 : Int32), p_ev scr 82 60 [.ref 0, .ref r, .int x2, .int x3, .int x4] [.int s0, .int s1, .ref r, .ref 2] w = p_ev scr 82 61 [.ref 0, .ref r, .int x2, .int x3, .int x4] [.int (nI 2), .int s0, .int s1, .ref r, .ref 2] w) ∧
  (∀ (scr : pX) (w : pW) (x2 : Int32) (x3 : Int32) (x4 : Int32) (s0 : Int32) (s1 : Int32) (s2 : Int32), ¬ s0 = 0 → p_ev scr 82 61 [.ref 0, .ref r, .int x2, .int x3, .int x4] [.int s0, .int s1, .int s2, .ref r, .ref 2] w = p_ev scr 82 62 [.ref 0, .ref r, .int x2, .int x3, .int x4] [.int (s1 / s0), .int s2, .ref r, .ref 2] w) ∧
  (∀ (scr : pX) (w : pW) (x2 : Int32) (x3 : Int32) (x4 : Int32) (s0 : Int32) (s1 : Int32), p_ev scr 82 62 [.ref 0, .ref r, .int x2, .int x3, .int x4] [.int s0, .int s1, .ref r, .ref 2] w = p_bnd scr 82 62 65 [.ref 0, .ref r, .int x2, .int x3, .int x4] [] (p_ev none 18 0 [.ref 2, .ref r, .int s1, .int s0, p_U] [] w)) ∧
  (∀ (scr : pX) (w : pW) (x2 : Int32) (x3 : Int32) (x4 : Int32), p_ev scr 82 65 [.ref 0, .ref r, .int x2, .int x3, .int x4] [] w = p_ev scr 82 68 [.ref 0, .ref r, .int x2, .int (x3 + (nI 1)), .int x4] [] w) ∧
  (∀ (scr : pX) (w : pW) (x2 : Int32) (x3 : Int32) (x4 : Int32), p_ev scr 82 68 [.ref 0, .ref r, .int x2, .int x3, .int x4] [] w = p_ev scr 82 71 [.ref 0, .ref r, .int x2, .int x3, .int (x4 + (-1 : Int32))] [] w) ∧
  (∀ (scr : pX) (w : pW) (x2 : Int32) (x3 : Int32) (x4 : Int32), p_ev scr 82 71 [.ref 0, .ref r, .int x2, .int x3, .int x4] [] w = p_ev scr 82 6 [.ref 0, .ref r, .int x2, .int x3, .int x4] [] w) ∧
  (∀ (scr : pX) (w : pW) (x2 : Int32) (x3 : Int32) (x4 : Int32), p_ev scr 82 74 [.ref 0, .ref r, .int x2, .int x3, .int x4] [] w = p_ev scr 82 75 [.ref 0, .ref r, .int x2, .int x3, .int x4] [.int x3] w) ∧
  (∀ (scr : pX) (w : pW) (x2 : Int32) (x3 : Int32) (x4 : Int32) (s0 : Int32), p_ev scr 82 75 [.ref 0, .ref r, .int x2, .int x3, .int x4] [.int s0] w = some (.inl (some (.int s0)), w, 0)) :=
  ⟨fun _ _ _ => p_r (by decide +kernel : p_at 82 0 = some (.iconst 0)) rfl,
  fun _ _ _ _ => p_r (by decide +kernel : p_at 82 1 = some (.istore_n 3)) rfl,
  fun _ _ _ _ => p_r (by decide +kernel : p_at 82 2 = some (.bipush 7)) rfl,
  fun _ _ _ _ _ => p_r (by decide +kernel : p_at 82 4 = some (.istore 4)) rfl,
  fun _ _ _ _ _ _ => p_r (by decide +kernel : p_at 82 8 = some (.iconst 1)) rfl,
  fun _ _ _ _ _ _ _ => p_rb2 (c := fun x y => decide (x < y)) (off := 65) (by decide +kernel : p_at 82 9 = some (.if_icmp .lt 65)) (by decide +kernel) rfl rfl rfl,
  fun _ _ _ _ _ => p_r (by decide +kernel : p_at 82 12 = some (.aload_n 0)) rfl,
  fun _ _ _ _ _ => p_rgf (f := some 1) (by decide +kernel : p_at 82 13 = some (.getfield 10)) (by decide +kernel : p_fld (p_own 82) 10 = some (4, 0)) (rfl : p_ob 0 = some (.inr (4, [some 1, some 2, some 4, some 3, some 5, some 6, some 7, some 19]))) rfl,
  fun _ _ _ _ _ => p_r (by decide +kernel : p_at 82 16 = some (.iload 4)) rfl,
  fun _ _ _ _ _ _ => p_rcv (nl := 2) (by decide +kernel : p_at 82 18 = some (.invokevirtual 114)) (by decide +kernel : p_inv (p_own 82) 114 = some (1, 33, 2)) (by decide +kernel) (rfl : p_ob 1 = some (.inr (3, [some 18, none]))) rfl rfl (Nat.le_of_ble_eq_true rfl) (Nat.le_of_ble_eq_true rfl) (Nat.le_of_ble_eq_true rfl) rfl,
  fun _ _ _ _ _ _ => p_rb1 (c := fun x => decide (x = 0)) (off := 47) (by decide +kernel : p_at 82 21 = some (.ifCond .eq 47)) (by decide +kernel) rfl rfl rfl,
  fun _ _ _ _ _ => p_r (by decide +kernel : p_at 82 24 = some (.aload_n 0)) rfl,
  fun _ _ _ _ _ => p_rgf (f := some 1) (by decide +kernel : p_at 82 25 = some (.getfield 10)) (by decide +kernel : p_fld (p_own 82) 10 = some (4, 0)) (rfl : p_ob 0 = some (.inr (4, [some 1, some 2, some 4, some 3, some 5, some 6, some 7, some 19]))) rfl,
  fun _ _ _ _ _ => p_r (by decide +kernel : p_at 82 28 = some (.iload 4)) rfl,
  fun _ _ _ _ _ _ => p_r (by decide +kernel : p_at 82 30 = some (.iload_n 2)) rfl,
  fun _ _ _ _ _ _ _ => p_rcv (nl := 4) (by decide +kernel : p_at 82 31 = some (.invokevirtual 249)) (by decide +kernel : p_inv (p_own 82) 249 = some (1, 37, 3)) (by decide +kernel) (rfl : p_ob 1 = some (.inr (3, [some 18, none]))) rfl rfl (Nat.le_of_ble_eq_true rfl) (Nat.le_of_ble_eq_true rfl) (Nat.le_of_ble_eq_true rfl) rfl,
  fun _ _ _ _ _ _ => p_rb1 (c := fun x => decide (x = 0)) (off := 34) (by decide +kernel : p_at 82 34 = some (.ifCond .eq 34)) (by decide +kernel) rfl rfl rfl,
  fun _ _ _ _ _ => p_r (by decide +kernel : p_at 82 37 = some (.aload_n 0)) rfl,
  fun _ _ _ _ _ => p_rgf (f := some 2) (by decide +kernel : p_at 82 38 = some (.getfield 19)) (by decide +kernel : p_fld (p_own 82) 19 = some (4, 1)) (rfl : p_ob 0 = some (.inr (4, [some 1, some 2, some 4, some 3, some 5, some 6, some 7, some 19]))) rfl,
  fun _ _ _ _ _ => p_r (by decide +kernel : p_at 82 41 = some (.aload_n 1)) rfl,
  fun _ _ _ _ _ => p_r (by decide +kernel : p_at 82 42 = some (.aload_n 0)) rfl,
  fun _ _ _ _ _ => p_rgf (f := some 1) (by decide +kernel : p_at 82 43 = some (.getfield 10)) (by decide +kernel : p_fld (p_own 82) 10 = some (4, 0)) (rfl : p_ob 0 = some (.inr (4, [some 1, some 2, some 4, some 3, some 5, some 6, some 7, some 19]))) rfl,
  fun _ _ _ _ _ => p_r (by decide +kernel : p_at 82 46 = some (.iload 4)) rfl,
  fun _ _ _ _ _ _ => p_rcv (nl := 2) (by decide +kernel : p_at 82 48 = some (.invokevirtual 154)) (by decide +kernel : p_inv (p_own 82) 154 = some (1, 40, 2)) (by decide +kernel) (rfl : p_ob 1 = some (.inr (3, [some 18, none]))) rfl rfl (Nat.le_of_ble_eq_true rfl) (Nat.le_of_ble_eq_true rfl) (Nat.le_of_ble_eq_true rfl) rfl,
  fun _ _ _ _ _ _ => p_r (by decide +kernel : p_at 82 51 = some (.aload_n 0)) rfl,
  fun _ _ _ _ _ _ => p_rgf (f := some 1) (by decide +kernel : p_at 82 52 = some (.getfield 10)) (by decide +kernel : p_fld (p_own 82) 10 = some (4, 0)) (rfl : p_ob 0 = some (.inr (4, [some 1, some 2, some 4, some 3, some 5, some 6, some 7, some 19]))) rfl,
  fun _ _ _ _ _ _ => p_r (by decide +kernel : p_at 82 55 = some (.iload 4)) rfl,
  fun _ _ _ _ _ _ _ => p_rcv (nl := 2) (by decide +kernel : p_at 82 57 = some (.invokevirtual 110)) (by decide +kernel : p_inv (p_own 82) 110 = some (1, 39, 2)) (by decide +kernel) (rfl : p_ob 1 = some (.inr (3, [some 18, none]))) rfl rfl (Nat.le_of_ble_eq_true rfl) (Nat.le_of_ble_eq_true rfl) (Nat.le_of_ble_eq_true rfl) rfl,
  fun _ _ _ _ _ _ _ => p_r (by decide +kernel : p_at 82 60 = some (.iconst 2)) rfl,
  fun _ _ _ _ _ _ _ _ hp => p_ridiv (by decide +kernel : p_at 82 61 = some (.idiv)) hp,
  fun _ _ _ _ _ _ _ => p_rcv (nl := 5) (by decide +kernel : p_at 82 62 = some (.invokevirtual 253)) (by decide +kernel : p_inv (p_own 82) 253 = some (1, 18, 4)) (by decide +kernel) (rfl : p_ob 2 = some (.inr (1, [some 8, none]))) rfl rfl (Nat.le_of_ble_eq_true rfl) (Nat.le_of_ble_eq_true rfl) (Nat.le_of_ble_eq_true rfl) rfl,
  fun _ _ _ _ _ => p_r (by decide +kernel : p_at 82 65 = some (.iinc 3 1)) rfl,
  fun _ _ _ _ _ => p_r (by decide +kernel : p_at 82 68 = some (.iinc 4 (-1))) rfl,
  fun _ _ _ _ _ => p_rgo (by decide +kernel : p_at 82 71 = some (.goto (-65))) (by decide +kernel),
  fun _ _ _ _ _ => p_r (by decide +kernel : p_at 82 74 = some (.iload_n 3)) rfl,
  fun _ _ _ _ _ _ => p_riret (by decide +kernel : p_at 82 75 = some (.ireturn)) (by decide +kernel)⟩
theorem H82_6 (r : Nat) (hr : p_rw r) :
  (∀ (scr : pX) (w : pW) (x2 : Int32) (x3 : Int32) (x4 : Int32), p_ev scr 82 6 [.ref 0, .ref r, .int x2, .int x3, .int x4] [] w = p_ev scr 82 8 [.ref 0, .ref r, .int x2, .int x3, .int x4] [.int x4] w) :=
  fun _ _ _ _ _ => p_r (by decide +kernel : p_at 82 6 = some (.iload 4)) rfl
-- 83: splitNodesBelow
theorem M83 :
  (∀ (scr : pX) (w : pW) (x1 : Int32), p_ev scr 83 0 [.ref 0, .int x1, p_U] [] w = p_ev scr 83 1 [.ref 0, .int x1, p_U] [.int (nI 1)] w) ∧
  (∀ (scr : pX) (w : pW) (x1 : Int32) (s0 : Int32), p_ev scr 83 1 [.ref 0, .int x1, p_U] [.int s0] w = p_ev scr 83 2 [.ref 0, .int x1, .int s0] [] w) ∧
  (∀ (scr : pX) (w : pW) (x1 : Int32) (x2 : Int32) (s0 : Int32), p_ev scr 83 3 [.ref 0, .int x1, .int x2] [.int s0] w = p_ev scr 83 4 [.ref 0, .int x1, .int x2] [.int x1, .int s0] w) ∧
  (∀ (scr : pX) (w : pW) (x1 : Int32) (x2 : Int32) (s0 : Int32) (s1 : Int32), p_ev scr 83 4 [.ref 0, .int x1, .int x2] [.int s0, .int s1] w = if s0 ≤ s1 then p_ev scr 83 60 [.ref 0, .int x1, .int x2] [] w else p_ev scr 83 7 [.ref 0, .int x1, .int x2] [] w) ∧
  (∀ (scr : pX) (w : pW) (x1 : Int32) (x2 : Int32), p_ev scr 83 7 [.ref 0, .int x1, .int x2] [] w = p_ev scr 83 8 [.ref 0, .int x1, .int x2] [.int x2] w) ∧
  (∀ (scr : pX) (w : pW) (x1 : Int32) (x2 : Int32) (s0 : Int32), p_ev scr 83 8 [.ref 0, .int x1, .int x2] [.int s0] w = p_ev scr 83 9 [.ref 0, .int x1, .int x2] [.ref 0, .int s0] w) ∧
  (∀ (scr : pX) (w : pW) (x1 : Int32) (x2 : Int32) (s1 : Int32), p_ev scr 83 9 [.ref 0, .int x1, .int x2] [.ref 0, .int s1] w = p_ev scr 83 12 [.ref 0, .int x1, .int x2] [.ref 19, .int s1] w) ∧
  (∀ (scr : pX) (w : pW) (x1 : Int32) (x2 : Int32) (s1 : Int32), p_ev scr 83 12 [.ref 0, .int x1, .int x2] [.ref 19, .int s1] w = p_ev scr 83 13 [.ref 0, .int x1, .int x2] [.int (nI 8), .int s1] w) ∧
  (∀ (scr : pX) (w : pW) (x1 : Int32) (x2 : Int32) (s0 : Int32) (s1 : Int32), p_ev scr 83 13 [.ref 0, .int x1, .int x2] [.int s0, .int s1] w = if s0 ≤ s1 then p_ev scr 83 60 [.ref 0, .int x1, .int x2] [] w else p_ev scr 83 16 [.ref 0, .int x1, .int x2] [] w) ∧
  (∀ (scr : pX) (w : pW) (x1 : Int32) (x2 : Int32), p_ev scr 83 16 [.ref 0, .int x1, .int x2] [] w = p_ev scr 83 17 [.ref 0, .int x1, .int x2] [.ref 0] w) ∧
  (∀ (scr : pX) (w : pW) (x1 : Int32) (x2 : Int32), p_ev scr 83 17 [.ref 0, .int x1, .int x2] [.ref 0] w = p_ev scr 83 20 [.ref 0, .int x1, .int x2] [.ref 1] w) ∧
  (∀ (scr : pX) (w : pW) (x1 : Int32) (x2 : Int32), p_ev scr 83 20 [.ref 0, .int x1, .int x2] [.ref 1] w = p_ev scr 83 21 [.ref 0, .int x1, .int x2] [.int x2, .ref 1] w) ∧
  (∀ (scr : pX) (w : pW) (x1 : Int32) (x2 : Int32) (s0 : Int32), p_ev scr 83 21 [.ref 0, .int x1, .int x2] [.int s0, .ref 1] w = p_bnd scr 83 21 24 [.ref 0, .int x1, .int x2] [] (p_ev none 32 0 [.ref 1, .int s0] [] w)) ∧
  (∀ (scr : pX) (w : pW) (x1 : Int32) (x2 : Int32) (s0 : Int32), p_ev scr 83 24 [.ref 0, .int x1, .int x2] [.int s0] w = if s0 = nI 0 then p_ev scr 83 54 [.ref 0, .int x1, .int x2] [] w else p_ev scr 83 27 [.ref 0, .int x1, .int x2] [] w) ∧
  (∀ (scr : pX) (w : pW) (x1 : Int32) (x2 : Int32), p_ev scr 83 27 [.ref 0, .int x1, .int x2] [] w = p_ev scr 83 28 [.ref 0, .int x1, .int x2] [.ref 0] w) ∧
  (∀ (scr : pX) (w : pW) (x1 : Int32) (x2 : Int32), p_ev scr 83 28 [.ref 0, .int x1, .int x2] [.ref 0] w = p_ev scr 83 31 [.ref 0, .int x1, .int x2] [.ref 19] w) ∧
  (∀ (scr : pX) (w : pW) (x1 : Int32) (x2 : Int32), p_ev scr 83 31 [.ref 0, .int x1, .int x2] [.ref 19] w = p_ev scr 83 32 [.ref 0, .int x1, .int x2] [.int x2, .ref 19] w) ∧
  (∀ (scr : pX) (w : pW) (x1 : Int32) (x2 : Int32) (s0 : Int32), p_ev scr 83 32 [.ref 0, .int x1, .int x2] [.int s0, .ref 19] w = p_ev scr 83 33 [.ref 0, .int x1, .int x2] [.ref 0, .int s0, .ref 19] w) ∧
  (∀ (scr : pX) (w : pW) (x1 : Int32) (x2 : Int32) (s1 : Int32), p_ev scr 83 33 [.ref 0, .int x1, .int x2] [.ref 0, .int s1, .ref 19] w = p_ev scr 83 34 [.ref 0, .int x1, .int x2] [.int x2, .ref 0, .int s1, .ref 19] w) ∧
  (∀ (scr : pX) (w : pW) (x1 : Int32) (x2 : Int32) (s0 : Int32) (s2 : Int32), p_ev scr 83 34 [.ref 0, .int x1, .int x2] [.int s0, .ref 0, .int s2, .ref 19] w = p_bnd scr 83 34 37 [.ref 0, .int x1, .int x2] [.int s2, .ref 19] (p_ev none 85 0 [.ref 0, .int s0, p_U, p_U, p_U] [] w)) ∧
  (∀ (scr : pX) (w : pW) (x1 : Int32) (x2 : Int32) (s0 : Int32) (s1 : Int32), p_out s1 8 = false → p_ev scr 83 37 [.ref 0, .int x1, .int x2] [.int s0, .int s1, .ref 19] w = p_ev scr 83 38 [.ref 0, .int x1, .int x2] [] (w.1, w.2.1, p_u w.2.2 19 s1.toNatClampNeg s0)) ∧
  (∀ (scr : pX) (w : pW) (x1 : Int32) (x2 : Int32), p_ev scr 83 38 [.ref 0, .int x1, .int x2] [] w = p_ev scr 83 39 [.ref 0, .int x1, .int x2] [.ref 0] w) ∧
  (∀ (scr : pX) (w : pW) (x1 : Int32) (x2 : Int32), p_ev scr 83 39 [.ref 0, .int x1, .int x2] [.ref 0] w = p_ev scr 83 42 [.ref 0, .int x1, .int x2] [.ref 1] w) ∧
  (∀ (scr : pX) (w : pW) (x1 : Int32) (x2 : Int32), p_ev scr 83 42 [.ref 0, .int x1, .int x2] [.ref 1] w = p_ev scr 83 43 [.ref 0, .int x1, .int x2] [.int x2, .ref 1] w) ∧
  (∀ (scr : pX) (w : pW) (x1 : Int32) (x2 : Int32) (s0 : Int32), p_ev scr 83 43 [.ref 0, .int x1, .int x2] [.int s0, .ref 1] w = p_bnd scr 83 43 46 [.ref 0, .int x1, .int x2] [] (p_ev none 34 0 [.ref 1, .int s0] [] w)) ∧
  (∀ (scr : pX) (w : pW) (x1 : Int32) (x2 : Int32) (s0 : Int32), p_ev scr 83 46 [.ref 0, .int x1, .int x2] [.int s0] w = if s0 = nI 0 then p_ev scr 83 54 [.ref 0, .int x1, .int x2] [] w else p_ev scr 83 49 [.ref 0, .int x1, .int x2] [] w) ∧
  (∀ (scr : pX) (w : pW) (x1 : Int32) (x2 : Int32), p_ev scr 83 49 [.ref 0, .int x1, .int x2] [] w = p_ev scr 83 50 [.ref 0, .int x1, .int x2] [.ref 0] w) ∧
  (∀ (scr : pX) (w : pW) (x1 : Int32) (x2 : Int32), p_ev scr 83 50 [.ref 0, .int x1, .int x2] [.ref 0] w = p_ev scr 83 51 [.ref 0, .int x1, .int x2] [.int x2, .ref 0] w) ∧
  (∀ (scr : pX) (w : pW) (x1 : Int32) (x2 : Int32) (s0 : Int32), p_ev scr 83 51 [.ref 0, .int x1, .int x2] [.int s0, .ref 0] w = p_bnd scr 83 51 54 [.ref 0, .int x1, .int x2] [] (p_ev none 80 0 [.ref 0, .int s0] [] w)) ∧
  (∀ (scr : pX) (w : pW) (x1 : Int32) (x2 : Int32), p_ev scr 83 54 [.ref 0, .int x1, .int x2] [] w = p_ev scr 83 57 [.ref 0, .int x1, .int (x2 + (nI 1))] [] w) ∧
  (∀ (scr : pX) (w : pW) (x1 : Int32) (x2 : Int32), p_ev scr 83 57 [.ref 0, .int x1, .int x2] [] w = p_ev scr 83 2 [.ref 0, .int x1, .int x2] [] w) ∧
  (∀ (scr : pX) (w : pW) (x1 : Int32) (x2 : Int32), p_ev scr 83 60 [.ref 0, .int x1, .int x2] [] w = some (.inl none, w, 0)) :=
  ⟨fun _ _ _ => p_r (by decide +kernel : p_at 83 0 = some (.iconst 1)) rfl,
  fun _ _ _ _ => p_r (by decide +kernel : p_at 83 1 = some (.istore_n 2)) rfl,
  fun _ _ _ _ _ => p_r (by decide +kernel : p_at 83 3 = some (.iload_n 1)) rfl,
  fun _ _ _ _ _ _ => p_rb2 (c := fun x y => decide (y ≤ x)) (off := 56) (by decide +kernel : p_at 83 4 = some (.if_icmp .ge 56)) (by decide +kernel) rfl rfl rfl,
  fun _ _ _ _ => p_r (by decide +kernel : p_at 83 7 = some (.iload_n 2)) rfl,
  fun _ _ _ _ _ => p_r (by decide +kernel : p_at 83 8 = some (.aload_n 0)) rfl,
  fun _ _ _ _ _ => p_rgf (f := some 19) (by decide +kernel : p_at 83 9 = some (.getfield 46)) (by decide +kernel : p_fld (p_own 83) 46 = some (4, 7)) (rfl : p_ob 0 = some (.inr (4, [some 1, some 2, some 4, some 3, some 5, some 6, some 7, some 19]))) rfl,
  fun _ _ _ _ _ => p_ralen (by decide +kernel : p_at 83 12 = some (.arraylength)) (rfl : p_ob 19 = some (.inl (1, 8))),
  fun _ _ _ _ _ _ => p_rb2 (c := fun x y => decide (y ≤ x)) (off := 47) (by decide +kernel : p_at 83 13 = some (.if_icmp .ge 47)) (by decide +kernel) rfl rfl rfl,
  fun _ _ _ _ => p_r (by decide +kernel : p_at 83 16 = some (.aload_n 0)) rfl,
  fun _ _ _ _ => p_rgf (f := some 1) (by decide +kernel : p_at 83 17 = some (.getfield 10)) (by decide +kernel : p_fld (p_own 83) 10 = some (4, 0)) (rfl : p_ob 0 = some (.inr (4, [some 1, some 2, some 4, some 3, some 5, some 6, some 7, some 19]))) rfl,
  fun _ _ _ _ => p_r (by decide +kernel : p_at 83 20 = some (.iload_n 2)) rfl,
  fun _ _ _ _ _ => p_rcv (nl := 2) (by decide +kernel : p_at 83 21 = some (.invokevirtual 122)) (by decide +kernel : p_inv (p_own 83) 122 = some (1, 32, 2)) (by decide +kernel) (rfl : p_ob 1 = some (.inr (3, [some 18, none]))) rfl rfl (Nat.le_of_ble_eq_true rfl) (Nat.le_of_ble_eq_true rfl) (Nat.le_of_ble_eq_true rfl) rfl,
  fun _ _ _ _ _ => p_rb1 (c := fun x => decide (x = 0)) (off := 30) (by decide +kernel : p_at 83 24 = some (.ifCond .eq 30)) (by decide +kernel) rfl rfl rfl,
  fun _ _ _ _ => p_r (by decide +kernel : p_at 83 27 = some (.aload_n 0)) rfl,
  fun _ _ _ _ => p_rgf (f := some 19) (by decide +kernel : p_at 83 28 = some (.getfield 46)) (by decide +kernel : p_fld (p_own 83) 46 = some (4, 7)) (rfl : p_ob 0 = some (.inr (4, [some 1, some 2, some 4, some 3, some 5, some 6, some 7, some 19]))) rfl,
  fun _ _ _ _ => p_r (by decide +kernel : p_at 83 31 = some (.iload_n 2)) rfl,
  fun _ _ _ _ _ => p_r (by decide +kernel : p_at 83 32 = some (.aload_n 0)) rfl,
  fun _ _ _ _ _ => p_r (by decide +kernel : p_at 83 33 = some (.iload_n 2)) rfl,
  fun _ _ _ _ _ _ => p_rcv (nl := 5) (by decide +kernel : p_at 83 34 = some (.invokevirtual 136)) (by decide +kernel : p_inv (p_own 83) 136 = some (1, 85, 2)) (by decide +kernel) (rfl : p_ob 0 = some (.inr (4, [some 1, some 2, some 4, some 3, some 5, some 6, some 7, some 19]))) rfl rfl (Nat.le_of_ble_eq_true rfl) (Nat.le_of_ble_eq_true rfl) (Nat.le_of_ble_eq_true rfl) rfl,
  fun _ _ _ _ _ _ hp => p_riast (by decide +kernel : p_at 83 37 = some (.iastore)) (rfl : p_ob 19 = some (.inl (1, 8))) hp,
  fun _ _ _ _ => p_r (by decide +kernel : p_at 83 38 = some (.aload_n 0)) rfl,
  fun _ _ _ _ => p_rgf (f := some 1) (by decide +kernel : p_at 83 39 = some (.getfield 10)) (by decide +kernel : p_fld (p_own 83) 10 = some (4, 0)) (rfl : p_ob 0 = some (.inr (4, [some 1, some 2, some 4, some 3, some 5, some 6, some 7, some 19]))) rfl,
  fun _ _ _ _ => p_r (by decide +kernel : p_at 83 42 = some (.iload_n 2)) rfl,
  fun _ _ _ _ _ => p_rcv (nl := 2) (by decide +kernel : p_at 83 43 = some (.invokevirtual 98)) (by decide +kernel : p_inv (p_own 83) 98 = some (1, 34, 2)) (by decide +kernel) (rfl : p_ob 1 = some (.inr (3, [some 18, none]))) rfl rfl (Nat.le_of_ble_eq_true rfl) (Nat.le_of_ble_eq_true rfl) (Nat.le_of_ble_eq_true rfl) rfl,
  fun _ _ _ _ _ => p_rb1 (c := fun x => decide (x = 0)) (off := 8) (by decide +kernel : p_at 83 46 = some (.ifCond .eq 8)) (by decide +kernel) rfl rfl rfl,
  fun _ _ _ _ => p_r (by decide +kernel : p_at 83 49 = some (.aload_n 0)) rfl,
  fun _ _ _ _ => p_r (by decide +kernel : p_at 83 50 = some (.iload_n 2)) rfl,
  fun _ _ _ _ _ => p_rcv (nl := 2) (by decide +kernel : p_at 83 51 = some (.invokevirtual 107)) (by decide +kernel : p_inv (p_own 83) 107 = some (1, 80, 2)) (by decide +kernel) (rfl : p_ob 0 = some (.inr (4, [some 1, some 2, some 4, some 3, some 5, some 6, some 7, some 19]))) rfl rfl (Nat.le_of_ble_eq_true rfl) (Nat.le_of_ble_eq_true rfl) (Nat.le_of_ble_eq_true rfl) rfl,
  fun _ _ _ _ => p_r (by decide +kernel : p_at 83 54 = some (.iinc 2 1)) rfl,
  fun _ _ _ _ => p_rgo (by decide +kernel : p_at 83 57 = some (.goto (-55))) (by decide +kernel),
  fun _ _ _ _ => p_rvret (by decide +kernel : p_at 83 60 = some (.return_)) (by decide +kernel)⟩
theorem H83_2 :
  (∀ (scr : pX) (w : pW) (x1 : Int32) (x2 : Int32), p_ev scr 83 2 [.ref 0, .int x1, .int x2] [] w = p_ev scr 83 3 [.ref 0, .int x1, .int x2] [.int x2] w) :=
  fun _ _ _ _ => p_r (by decide +kernel : p_at 83 2 = some (.iload_n 2)) rfl
-- 84: joinWhereLeafCostsNoMore
theorem M84 :
  (∀ (scr : pX) (w : pW), p_ev scr 84 0 [.ref 0, p_U] [] w = p_ev scr 84 1 [.ref 0, p_U] [.ref 0] w) ∧
  (∀ (scr : pX) (w : pW), p_ev scr 84 1 [.ref 0, p_U] [.ref 0] w = p_ev scr 84 4 [.ref 0, p_U] [.ref 19] w) ∧
  (∀ (scr : pX) (w : pW), p_ev scr 84 4 [.ref 0, p_U] [.ref 19] w = p_ev scr 84 5 [.ref 0, p_U] [.int (nI 8)] w) ∧
  (∀ (scr : pX) (w : pW) (s0 : Int32), p_ev scr 84 5 [.ref 0, p_U] [.int s0] w = p_ev scr 84 6 [.ref 0, p_U] [.int (nI 1), .int s0] w) ∧
  (∀ (scr : pX) (w : pW) (s0 : Int32) (s1 : Int32), p_ev scr 84 6 [.ref 0, p_U] [.int s0, .int s1] w = p_ev scr 84 7 [.ref 0, p_U] [.int (s1 - s0)] w) ∧
  (∀ (scr : pX) (w : pW) (s0 : Int32), p_ev scr 84 7 [.ref 0, p_U] [.int s0] w = p_ev scr 84 8 [.ref 0, .int s0] [] w) ∧
  (∀ (scr : pX) (w : pW) (x1 : Int32) (s0 : Int32), p_ev scr 84 9 [.ref 0, .int x1] [.int s0] w = p_ev scr 84 10 [.ref 0, .int x1] [.int (nI 1), .int s0] w) ∧
  (∀ (scr : pX) (w : pW) (x1 : Int32) (s0 : Int32) (s1 : Int32), p_ev scr 84 10 [.ref 0, .int x1] [.int s0, .int s1] w = if s1 < s0 then p_ev scr 84 50 [.ref 0, .int x1] [] w else p_ev scr 84 13 [.ref 0, .int x1] [] w) ∧
  (∀ (scr : pX) (w : pW) (x1 : Int32), p_ev scr 84 13 [.ref 0, .int x1] [] w = p_ev scr 84 14 [.ref 0, .int x1] [.ref 0] w) ∧
  (∀ (scr : pX) (w : pW) (x1 : Int32), p_ev scr 84 14 [.ref 0, .int x1] [.ref 0] w = p_ev scr 84 17 [.ref 0, .int x1] [.ref 1] w) ∧
  (∀ (scr : pX) (w : pW) (x1 : Int32), p_ev scr 84 17 [.ref 0, .int x1] [.ref 1] w = p_ev scr 84 18 [.ref 0, .int x1] [.int x1, .ref 1] w) ∧
  (∀ (scr : pX) (w : pW) (x1 : Int32) (s0 : Int32), p_ev scr 84 18 [.ref 0, .int x1] [.int s0, .ref 1] w = p_bnd scr 84 18 21 [.ref 0, .int x1] [] (p_ev none 33 0 [.ref 1, .int s0] [] w)) ∧
  (∀ (scr : pX) (w : pW) (x1 : Int32) (s0 : Int32), p_ev scr 84 21 [.ref 0, .int x1] [.int s0] w = if s0 = nI 0 then p_ev scr 84 44 [.ref 0, .int x1] [] w else p_ev scr 84 24 [.ref 0, .int x1] [] w) ∧
  (∀ (scr : pX) (w : pW) (x1 : Int32), p_ev scr 84 24 [.ref 0, .int x1] [] w = p_ev scr 84 25 [.ref 0, .int x1] [.ref 0] w) ∧
  (∀ (scr : pX) (w : pW) (x1 : Int32), p_ev scr 84 25 [.ref 0, .int x1] [.ref 0] w = p_ev scr 84 28 [.ref 0, .int x1] [.ref 19] w) ∧
  (∀ (scr : pX) (w : pW) (x1 : Int32), p_ev scr 84 28 [.ref 0, .int x1] [.ref 19] w = p_ev scr 84 29 [.ref 0, .int x1] [.int x1, .ref 19] w) ∧
  (∀ (scr : pX) (w : pW) (x1 : Int32) (s0 : Int32), p_out s0 8 = false → p_ev scr 84 29 [.ref 0, .int x1] [.int s0, .ref 19] w = p_ev scr 84 30 [.ref 0, .int x1] [.int (w.2.2 19 s0.toNatClampNeg)] w) ∧
  (∀ (scr : pX) (w : pW) (x1 : Int32) (s0 : Int32), p_ev scr 84 30 [.ref 0, .int x1] [.int s0] w = p_ev scr 84 31 [.ref 0, .int x1] [.ref 0, .int s0] w) ∧
  (∀ (scr : pX) (w : pW) (x1 : Int32) (s1 : Int32), p_ev scr 84 31 [.ref 0, .int x1] [.ref 0, .int s1] w = p_ev scr 84 32 [.ref 0, .int x1] [.int x1, .ref 0, .int s1] w) ∧
  (∀ (scr : pX) (w : pW) (x1 : Int32) (s0 : Int32) (s2 : Int32), p_ev scr 84 32 [.ref 0, .int x1] [.int s0, .ref 0, .int s2] w = p_bnd scr 84 32 35 [.ref 0, .int x1] [.int s2] (p_ev none 85 0 [.ref 0, .int s0, p_U, p_U, p_U] [] w)) ∧
  (∀ (scr : pX) (w : pW) (x1 : Int32) (s0 : Int32) (s1 : Int32), p_ev scr 84 35 [.ref 0, .int x1] [.int s0, .int s1] w = if s0 < s1 then p_ev scr 84 44 [.ref 0, .int x1] [] w else p_ev scr 84 38 [.ref 0, .int x1] [] w) ∧
  (∀ (scr : pX) (w : pW) (x1 : Int32), p_ev scr 84 38 [.ref 0, .int x1] [] w = p_ev scr 84 39 [.ref 0, .int x1] [.ref 0] w) ∧
  (∀ (scr : pX) (w : pW) (x1 : Int32), p_ev scr 84 39 [.ref 0, .int x1] [.ref 0] w = p_ev scr 84 40 [.ref 0, .int x1] [.int x1, .ref 0] w) ∧
  (∀ (scr : pX) (w : pW) (x1 : Int32) (s0 : Int32), p_ev scr 84 40 [.ref 0, .int x1] [.int s0, .ref 0] w = p_bnd scr 84 40 43 [.ref 0, .int x1] [] (p_ev none 81 0 [.ref 0, .int s0, p_U] [] w)) ∧
  (∀ (scr : pX) (w : pW) (x1 : Int32) (s0 : Int32), p_ev scr 84 43 [.ref 0, .int x1] [.int s0] w = p_ev scr 84 44 [.ref 0, .int x1] [] w) ∧
  (∀ (scr : pX) (w : pW) (x1 : Int32), p_ev scr 84 44 [.ref 0, .int x1] [] w = p_ev scr 84 47 [.ref 0, .int (x1 + (-1 : Int32))] [] w) ∧
  (∀ (scr : pX) (w : pW) (x1 : Int32), p_ev scr 84 47 [.ref 0, .int x1] [] w = p_ev scr 84 8 [.ref 0, .int x1] [] w) ∧
  (∀ (scr : pX) (w : pW) (x1 : Int32), p_ev scr 84 50 [.ref 0, .int x1] [] w = some (.inl none, w, 0)) :=
  ⟨fun _ _ => p_r (by decide +kernel : p_at 84 0 = some (.aload_n 0)) rfl,
  fun _ _ => p_rgf (f := some 19) (by decide +kernel : p_at 84 1 = some (.getfield 46)) (by decide +kernel : p_fld (p_own 84) 46 = some (4, 7)) (rfl : p_ob 0 = some (.inr (4, [some 1, some 2, some 4, some 3, some 5, some 6, some 7, some 19]))) rfl,
  fun _ _ => p_ralen (by decide +kernel : p_at 84 4 = some (.arraylength)) (rfl : p_ob 19 = some (.inl (1, 8))),
  fun _ _ _ => p_r (by decide +kernel : p_at 84 5 = some (.iconst 1)) rfl,
  fun _ _ _ _ => p_r (by decide +kernel : p_at 84 6 = some (.isub)) rfl,
  fun _ _ _ => p_r (by decide +kernel : p_at 84 7 = some (.istore_n 1)) rfl,
  fun _ _ _ _ => p_r (by decide +kernel : p_at 84 9 = some (.iconst 1)) rfl,
  fun _ _ _ _ _ => p_rb2 (c := fun x y => decide (x < y)) (off := 40) (by decide +kernel : p_at 84 10 = some (.if_icmp .lt 40)) (by decide +kernel) rfl rfl rfl,
  fun _ _ _ => p_r (by decide +kernel : p_at 84 13 = some (.aload_n 0)) rfl,
  fun _ _ _ => p_rgf (f := some 1) (by decide +kernel : p_at 84 14 = some (.getfield 10)) (by decide +kernel : p_fld (p_own 84) 10 = some (4, 0)) (rfl : p_ob 0 = some (.inr (4, [some 1, some 2, some 4, some 3, some 5, some 6, some 7, some 19]))) rfl,
  fun _ _ _ => p_r (by decide +kernel : p_at 84 17 = some (.iload_n 1)) rfl,
  fun _ _ _ _ => p_rcv (nl := 2) (by decide +kernel : p_at 84 18 = some (.invokevirtual 114)) (by decide +kernel : p_inv (p_own 84) 114 = some (1, 33, 2)) (by decide +kernel) (rfl : p_ob 1 = some (.inr (3, [some 18, none]))) rfl rfl (Nat.le_of_ble_eq_true rfl) (Nat.le_of_ble_eq_true rfl) (Nat.le_of_ble_eq_true rfl) rfl,
  fun _ _ _ _ => p_rb1 (c := fun x => decide (x = 0)) (off := 23) (by decide +kernel : p_at 84 21 = some (.ifCond .eq 23)) (by decide +kernel) rfl rfl rfl,
  fun _ _ _ => p_r (by decide +kernel : p_at 84 24 = some (.aload_n 0)) rfl,
  fun _ _ _ => p_rgf (f := some 19) (by decide +kernel : p_at 84 25 = some (.getfield 46)) (by decide +kernel : p_fld (p_own 84) 46 = some (4, 7)) (rfl : p_ob 0 = some (.inr (4, [some 1, some 2, some 4, some 3, some 5, some 6, some 7, some 19]))) rfl,
  fun _ _ _ => p_r (by decide +kernel : p_at 84 28 = some (.iload_n 1)) rfl,
  fun _ _ _ _ hp => p_riald (by decide +kernel : p_at 84 29 = some (.iaload)) (rfl : p_ob 19 = some (.inl (1, 8))) hp,
  fun _ _ _ _ => p_r (by decide +kernel : p_at 84 30 = some (.aload_n 0)) rfl,
  fun _ _ _ _ => p_r (by decide +kernel : p_at 84 31 = some (.iload_n 1)) rfl,
  fun _ _ _ _ _ => p_rcv (nl := 5) (by decide +kernel : p_at 84 32 = some (.invokevirtual 136)) (by decide +kernel : p_inv (p_own 84) 136 = some (1, 85, 2)) (by decide +kernel) (rfl : p_ob 0 = some (.inr (4, [some 1, some 2, some 4, some 3, some 5, some 6, some 7, some 19]))) rfl rfl (Nat.le_of_ble_eq_true rfl) (Nat.le_of_ble_eq_true rfl) (Nat.le_of_ble_eq_true rfl) rfl,
  fun _ _ _ _ _ => p_rb2 (c := fun x y => decide (y < x)) (off := 9) (by decide +kernel : p_at 84 35 = some (.if_icmp .gt 9)) (by decide +kernel) rfl rfl rfl,
  fun _ _ _ => p_r (by decide +kernel : p_at 84 38 = some (.aload_n 0)) rfl,
  fun _ _ _ => p_r (by decide +kernel : p_at 84 39 = some (.iload_n 1)) rfl,
  fun _ _ _ _ => p_rcv (nl := 3) (by decide +kernel : p_at 84 40 = some (.invokevirtual 119)) (by decide +kernel : p_inv (p_own 84) 119 = some (1, 81, 2)) (by decide +kernel) (rfl : p_ob 0 = some (.inr (4, [some 1, some 2, some 4, some 3, some 5, some 6, some 7, some 19]))) rfl rfl (Nat.le_of_ble_eq_true rfl) (Nat.le_of_ble_eq_true rfl) (Nat.le_of_ble_eq_true rfl) rfl,
  fun _ _ _ _ => p_r (by decide +kernel : p_at 84 43 = some (.pop)) rfl,
  fun _ _ _ => p_r (by decide +kernel : p_at 84 44 = some (.iinc 1 (-1))) rfl,
  fun _ _ _ => p_rgo (by decide +kernel : p_at 84 47 = some (.goto (-39))) (by decide +kernel),
  fun _ _ _ => p_rvret (by decide +kernel : p_at 84 50 = some (.return_)) (by decide +kernel)⟩
theorem H84_8 :
  (∀ (scr : pX) (w : pW) (x1 : Int32), p_ev scr 84 8 [.ref 0, .int x1] [] w = p_ev scr 84 9 [.ref 0, .int x1] [.int x1] w) :=
  fun _ _ _ => p_r (by decide +kernel : p_at 84 8 = some (.iload_n 1)) rfl
-- 85: branchCost
theorem M85 :
  (∀ (scr : pX) (w : pW) (x1 : Int32), p_ev scr 85 0 [.ref 0, .int x1, p_U, p_U, p_U] [] w = p_ev scr 85 1 [.ref 0, .int x1, p_U, p_U, p_U] [.int (nI 0)] w) ∧
  (∀ (scr : pX) (w : pW) (x1 : Int32) (s0 : Int32), p_ev scr 85 1 [.ref 0, .int x1, p_U, p_U, p_U] [.int s0] w = p_ev scr 85 2 [.ref 0, .int x1, .int s0, p_U, p_U] [] w) ∧
  (∀ (scr : pX) (w : pW) (x1 : Int32) (x2 : Int32), p_ev scr 85 2 [.ref 0, .int x1, .int x2, p_U, p_U] [] w = p_ev scr 85 3 [.ref 0, .int x1, .int x2, p_U, p_U] [.ref 0] w) ∧
  (∀ (scr : pX) (w : pW) (x1 : Int32) (x2 : Int32), p_ev scr 85 3 [.ref 0, .int x1, .int x2, p_U, p_U] [.ref 0] w = p_ev scr 85 6 [.ref 0, .int x1, .int x2, p_U, p_U] [.ref 1] w) ∧
  (∀ (scr : pX) (w : pW) (x1 : Int32) (x2 : Int32), p_ev scr 85 6 [.ref 0, .int x1, .int x2, p_U, p_U] [.ref 1] w = p_ev scr 85 7 [.ref 0, .int x1, .int x2, p_U, p_U] [.int x1, .ref 1] w) ∧
  (∀ (scr : pX) (w : pW) (x1 : Int32) (x2 : Int32) (s0 : Int32), p_ev scr 85 7 [.ref 0, .int x1, .int x2, p_U, p_U] [.int s0, .ref 1] w = p_bnd scr 85 7 10 [.ref 0, .int x1, .int x2, p_U, p_U] [] (p_ev none 40 0 [.ref 1, .int s0] [] w)) ∧
  (∀ (scr : pX) (w : pW) (x1 : Int32) (x2 : Int32) (s0 : Int32), p_ev scr 85 10 [.ref 0, .int x1, .int x2, p_U, p_U] [.int s0] w = p_ev scr 85 11 [.ref 0, .int x1, .int x2, p_U, p_U] [.ref 0, .int s0] w) ∧
  (∀ (scr : pX) (w : pW) (x1 : Int32) (x2 : Int32) (s1 : Int32), p_ev scr 85 11 [.ref 0, .int x1, .int x2, p_U, p_U] [.ref 0, .int s1] w = p_ev scr 85 14 [.ref 0, .int x1, .int x2, p_U, p_U] [.ref 1, .int s1] w) ∧
  (∀ (scr : pX) (w : pW) (x1 : Int32) (x2 : Int32) (s1 : Int32), p_ev scr 85 14 [.ref 0, .int x1, .int x2, p_U, p_U] [.ref 1, .int s1] w = p_ev scr 85 15 [.ref 0, .int x1, .int x2, p_U, p_U] [.int x1, .ref 1, .int s1] w) ∧
  (∀ (scr : pX) (w : pW) (x1 : Int32) (x2 : Int32) (s0 : Int32) (s2 : Int32), p_ev scr 85 15 [.ref 0, .int x1, .int x2, p_U, p_U] [.int s0, .ref 1, .int s2] w = p_bnd scr 85 15 18 [.ref 0, .int x1, .int x2, p_U, p_U] [.int s2] (p_ev none 39 0 [.ref 1, .int s0] [] w)) ∧
  (∀ (scr : pX) (w : pW) (x1 : Int32) (x2 : Int32) (s0 : Int32) (s1 : Int32), p_ev scr 85 18 [.ref 0, .int x1, .int x2, p_U, p_U] [.int s0, .int s1] w = p_ev scr 85 19 [.ref 0, .int x1, .int x2, p_U, p_U] [.int (s1 + s0)] w) ∧
  (∀ (scr : pX) (w : pW) (x1 : Int32) (x2 : Int32) (s0 : Int32), p_ev scr 85 19 [.ref 0, .int x1, .int x2, p_U, p_U] [.int s0] w = p_ev scr 85 20 [.ref 0, .int x1, .int x2, .int s0, p_U] [] w) ∧
  (∀ (scr : pX) (w : pW) (x1 : Int32) (x2 : Int32) (x3 : Int32), p_ev scr 85 20 [.ref 0, .int x1, .int x2, .int x3, p_U] [] w = p_ev scr 85 21 [.ref 0, .int x1, .int x2, .int x3, p_U] [.ref 0] w) ∧
  (∀ (scr : pX) (w : pW) (x1 : Int32) (x2 : Int32) (x3 : Int32), p_ev scr 85 21 [.ref 0, .int x1, .int x2, .int x3, p_U] [.ref 0] w = p_ev scr 85 24 [.ref 0, .int x1, .int x2, .int x3, p_U] [.ref 1] w) ∧
  (∀ (scr : pX) (w : pW) (x1 : Int32) (x2 : Int32) (x3 : Int32), p_ev scr 85 24 [.ref 0, .int x1, .int x2, .int x3, p_U] [.ref 1] w = p_ev scr 85 25 [.ref 0, .int x1, .int x2, .int x3, p_U] [.int x1, .ref 1] w) ∧
  (∀ (scr : pX) (w : pW) (x1 : Int32) (x2 : Int32) (x3 : Int32) (s0 : Int32), p_ev scr 85 25 [.ref 0, .int x1, .int x2, .int x3, p_U] [.int s0, .ref 1] w = p_bnd scr 85 25 28 [.ref 0, .int x1, .int x2, .int x3, p_U] [] (p_ev none 40 0 [.ref 1, .int s0] [] w)) ∧
  (∀ (scr : pX) (w : pW) (x1 : Int32) (x2 : Int32) (x3 : Int32) (s0 : Int32), p_ev scr 85 28 [.ref 0, .int x1, .int x2, .int x3, p_U] [.int s0] w = p_ev scr 85 30 [.ref 0, .int x1, .int x2, .int x3, .int s0] [] w) ∧
  (∀ (scr : pX) (w : pW) (x1 : Int32) (x2 : Int32) (x3 : Int32) (x4 : Int32) (s0 : Int32), p_ev scr 85 32 [.ref 0, .int x1, .int x2, .int x3, .int x4] [.int s0] w = p_ev scr 85 33 [.ref 0, .int x1, .int x2, .int x3, .int x4] [.int x3, .int s0] w) ∧
  (∀ (scr : pX) (w : pW) (x1 : Int32) (x2 : Int32) (x3 : Int32) (x4 : Int32) (s0 : Int32) (s1 : Int32), p_ev scr 85 33 [.ref 0, .int x1, .int x2, .int x3, .int x4] [.int s0, .int s1] w = if s0 ≤ s1 then p_ev scr 85 57 [.ref 0, .int x1, .int x2, .int x3, .int x4] [] w else p_ev scr 85 36 [.ref 0, .int x1, .int x2, .int x3, .int x4] [] w) ∧
  (∀ (scr : pX) (w : pW) (x1 : Int32) (x2 : Int32) (x3 : Int32) (x4 : Int32), p_ev scr 85 36 [.ref 0, .int x1, .int x2, .int x3, .int x4] [] w = p_ev scr 85 37 [.ref 0, .int x1, .int x2, .int x3, .int x4] [.int x2] w) ∧
  (∀ (scr : pX) (w : pW) (x1 : Int32) (x2 : Int32) (x3 : Int32) (x4 : Int32) (s0 : Int32), p_ev scr 85 37 [.ref 0, .int x1, .int x2, .int x3, .int x4] [.int s0] w = p_ev scr 85 38 [.ref 0, .int x1, .int x2, .int x3, .int x4] [.ref 0, .int s0] w) ∧
  (∀ (scr : pX) (w : pW) (x1 : Int32) (x2 : Int32) (x3 : Int32) (x4 : Int32) (s1 : Int32), p_ev scr 85 38 [.ref 0, .int x1, .int x2, .int x3, .int x4] [.ref 0, .int s1] w = p_ev scr 85 41 [.ref 0, .int x1, .int x2, .int x3, .int x4] [.ref 4, .int s1] w) ∧
  (∀ (scr : pX) (w : pW) (x1 : Int32) (x2 : Int32) (x3 : Int32) (x4 : Int32) (s1 : Int32), p_ev scr 85 41 [.ref 0, .int x1, .int x2, .int x3, .int x4] [.ref 4, .int s1] w = p_ev scr 85 43 [.ref 0, .int x1, .int x2, .int x3, .int x4] [.int x4, .ref 4, .int s1] w) ∧
  (∀ (scr : pX) (w : pW) (x1 : Int32) (x2 : Int32) (x3 : Int32) (x4 : Int32) (s0 : Int32) (s2 : Int32), p_ev scr 85 43 [.ref 0, .int x1, .int x2, .int x3, .int x4] [.int s0, .ref 4, .int s2] w = p_bnd scr 85 43 46 [.ref 0, .int x1, .int x2, .int x3, .int x4] [.int s2] (p_ev none 26 0 [.ref 4, .int s0] [] w)) ∧
  (∀ (scr : pX) (w : pW) (x1 : Int32) (x2 : Int32) (x3 : Int32) (x4 : Int32) (t0 : Int64) (s1 : Int32), p_ev scr 85 46 [.ref 0, .int x1, .int x2, .int x3, .int x4] [.long t0, .int s1] w = p_bnd scr 85 46 49 [.ref 0, .int x1, .int x2, .int x3, .int x4] [.int s1] (p_ev none 86 0 [.long t0, p_U, p_U] [] w)) ∧
  (∀ (scr : pX) (w : pW) (x1 : Int32) (x2 : Int32) (x3 : Int32) (x4 : Int32) (s0 : Int32) (s1 : Int32), p_ev scr 85 49 [.ref 0, .int x1, .int x2, .int x3, .int x4] [.int s0, .int s1] w = p_ev scr 85 50 [.ref 0, .int x1, .int x2, .int x3, .int x4] [.int (s1 + s0)] w) ∧
  (∀ (scr : pX) (w : pW) (x1 : Int32) (x2 : Int32) (x3 : Int32) (x4 : Int32) (s0 : Int32), p_ev scr 85 50 [.ref 0, .int x1, .int x2, .int x3, .int x4] [.int s0] w = p_ev scr 85 51 [.ref 0, .int x1, .int s0, .int x3, .int x4] [] w) ∧
  (∀ (scr : pX) (w : pW) (x1 : Int32) (x2 : Int32) (x3 : Int32) (x4 : Int32), p_ev scr 85 51 [.ref 0, .int x1, .int x2, .int x3, .int x4] [] w = p_ev scr 85 54 [.ref 0, .int x1, .int x2, .int x3, .int (x4 + (nI 1))] [] w) ∧
  (∀ (scr : pX) (w : pW) (x1 : Int32) (x2 : Int32) (x3 : Int32) (x4 : Int32), p_ev scr 85 54 [.ref 0, .int x1, .int x2, .int x3, .int x4] [] w = p_ev scr 85 30 [.ref 0, .int x1, .int x2, .int x3, .int x4] [] w) ∧
  (∀ (scr : pX) (w : pW) (x1 : Int32) (x2 : Int32) (x3 : Int32) (x4 : Int32), p_ev scr 85 57 [.ref 0, .int x1, .int x2, .int x3, .int x4] [] w = p_ev scr 85 58 [.ref 0, .int x1, .int x2, .int x3, .int x4] [.int x2] w) ∧
  (∀ (scr : pX) (w : pW) (x1 : Int32) (x2 : Int32) (x3 : Int32) (x4 : Int32) (s0 : Int32), p_ev scr 85 58 [.ref 0, .int x1, .int x2, .int x3, .int x4] [.int s0] w = some (.inl (some (.int s0)), w, 0)) :=
  ⟨fun _ _ _ => p_r (by decide +kernel : p_at 85 0 = some (.iconst 0)) rfl,
  fun _ _ _ _ => p_r (by decide +kernel : p_at 85 1 = some (.istore_n 2)) rfl,
  fun _ _ _ _ => p_r (by decide +kernel : p_at 85 2 = some (.aload_n 0)) rfl,
  fun _ _ _ _ => p_rgf (f := some 1) (by decide +kernel : p_at 85 3 = some (.getfield 10)) (by decide +kernel : p_fld (p_own 85) 10 = some (4, 0)) (rfl : p_ob 0 = some (.inr (4, [some 1, some 2, some 4, some 3, some 5, some 6, some 7, some 19]))) rfl,
  fun _ _ _ _ => p_r (by decide +kernel : p_at 85 6 = some (.iload_n 1)) rfl,
  fun _ _ _ _ _ => p_rcv (nl := 2) (by decide +kernel : p_at 85 7 = some (.invokevirtual 154)) (by decide +kernel : p_inv (p_own 85) 154 = some (1, 40, 2)) (by decide +kernel) (rfl : p_ob 1 = some (.inr (3, [some 18, none]))) rfl rfl (Nat.le_of_ble_eq_true rfl) (Nat.le_of_ble_eq_true rfl) (Nat.le_of_ble_eq_true rfl) rfl,
  fun _ _ _ _ _ => p_r (by decide +kernel : p_at 85 10 = some (.aload_n 0)) rfl,
  fun _ _ _ _ _ => p_rgf (f := some 1) (by decide +kernel : p_at 85 11 = some (.getfield 10)) (by decide +kernel : p_fld (p_own 85) 10 = some (4, 0)) (rfl : p_ob 0 = some (.inr (4, [some 1, some 2, some 4, some 3, some 5, some 6, some 7, some 19]))) rfl,
  fun _ _ _ _ _ => p_r (by decide +kernel : p_at 85 14 = some (.iload_n 1)) rfl,
  fun _ _ _ _ _ _ => p_rcv (nl := 2) (by decide +kernel : p_at 85 15 = some (.invokevirtual 110)) (by decide +kernel : p_inv (p_own 85) 110 = some (1, 39, 2)) (by decide +kernel) (rfl : p_ob 1 = some (.inr (3, [some 18, none]))) rfl rfl (Nat.le_of_ble_eq_true rfl) (Nat.le_of_ble_eq_true rfl) (Nat.le_of_ble_eq_true rfl) rfl,
  fun _ _ _ _ _ _ => p_r (by decide +kernel : p_at 85 18 = some (.iadd)) rfl,
  fun _ _ _ _ _ => p_r (by decide +kernel : p_at 85 19 = some (.istore_n 3)) rfl,
  fun _ _ _ _ _ => p_r (by decide +kernel : p_at 85 20 = some (.aload_n 0)) rfl,
  fun _ _ _ _ _ => p_rgf (f := some 1) (by decide +kernel : p_at 85 21 = some (.getfield 10)) (by decide +kernel : p_fld (p_own 85) 10 = some (4, 0)) (rfl : p_ob 0 = some (.inr (4, [some 1, some 2, some 4, some 3, some 5, some 6, some 7, some 19]))) rfl,
  fun _ _ _ _ _ => p_r (by decide +kernel : p_at 85 24 = some (.iload_n 1)) rfl,
  fun _ _ _ _ _ _ => p_rcv (nl := 2) (by decide +kernel : p_at 85 25 = some (.invokevirtual 154)) (by decide +kernel : p_inv (p_own 85) 154 = some (1, 40, 2)) (by decide +kernel) (rfl : p_ob 1 = some (.inr (3, [some 18, none]))) rfl rfl (Nat.le_of_ble_eq_true rfl) (Nat.le_of_ble_eq_true rfl) (Nat.le_of_ble_eq_true rfl) rfl,
  fun _ _ _ _ _ _ => p_r (by decide +kernel : p_at 85 28 = some (.istore 4)) rfl,
  fun _ _ _ _ _ _ _ => p_r (by decide +kernel : p_at 85 32 = some (.iload_n 3)) rfl,
  fun _ _ _ _ _ _ _ _ => p_rb2 (c := fun x y => decide (y ≤ x)) (off := 24) (by decide +kernel : p_at 85 33 = some (.if_icmp .ge 24)) (by decide +kernel) rfl rfl rfl,
  fun _ _ _ _ _ _ => p_r (by decide +kernel : p_at 85 36 = some (.iload_n 2)) rfl,
  fun _ _ _ _ _ _ _ => p_r (by decide +kernel : p_at 85 37 = some (.aload_n 0)) rfl,
  fun _ _ _ _ _ _ _ => p_rgf (f := some 4) (by decide +kernel : p_at 85 38 = some (.getfield 26)) (by decide +kernel : p_fld (p_own 85) 26 = some (4, 2)) (rfl : p_ob 0 = some (.inr (4, [some 1, some 2, some 4, some 3, some 5, some 6, some 7, some 19]))) rfl,
  fun _ _ _ _ _ _ _ => p_r (by decide +kernel : p_at 85 41 = some (.iload 4)) rfl,
  fun _ _ _ _ _ _ _ _ => p_rcv (nl := 2) (by decide +kernel : p_at 85 43 = some (.invokevirtual 179)) (by decide +kernel : p_inv (p_own 85) 179 = some (1, 26, 2)) (by decide +kernel) (rfl : p_ob 4 = some (.inr (2, [some 11]))) rfl rfl (Nat.le_of_ble_eq_true rfl) (Nat.le_of_ble_eq_true rfl) (Nat.le_of_ble_eq_true rfl) rfl,
  fun _ _ _ _ _ _ _ _ => p_rcs (nl := 3) (by decide +kernel : p_at 85 46 = some (.invokestatic 256)) (by decide +kernel : p_inv (p_own 85) 256 = some (1, 86, 1)) (by decide +kernel) rfl rfl (Nat.le_of_ble_eq_true rfl) (Nat.le_of_ble_eq_true rfl) (Nat.le_of_ble_eq_true rfl) rfl,
  fun _ _ _ _ _ _ _ _ => p_r (by decide +kernel : p_at 85 49 = some (.iadd)) rfl,
  fun _ _ _ _ _ _ _ => p_r (by decide +kernel : p_at 85 50 = some (.istore_n 2)) rfl,
  fun _ _ _ _ _ _ => p_r (by decide +kernel : p_at 85 51 = some (.iinc 4 1)) rfl,
  fun _ _ _ _ _ _ => p_rgo (by decide +kernel : p_at 85 54 = some (.goto (-24))) (by decide +kernel),
  fun _ _ _ _ _ _ => p_r (by decide +kernel : p_at 85 57 = some (.iload_n 2)) rfl,
  fun _ _ _ _ _ _ _ => p_riret (by decide +kernel : p_at 85 58 = some (.ireturn)) (by decide +kernel)⟩
theorem H85_30 :
  (∀ (scr : pX) (w : pW) (x1 : Int32) (x2 : Int32) (x3 : Int32) (x4 : Int32), p_ev scr 85 30 [.ref 0, .int x1, .int x2, .int x3, .int x4] [] w = p_ev scr 85 32 [.ref 0, .int x1, .int x2, .int x3, .int x4] [.int x4] w) :=
  fun _ _ _ _ _ _ => p_r (by decide +kernel : p_at 85 30 = some (.iload 4)) rfl
-- 86: digits
theorem M86 :
  (∀ (scr : pX) (w : pW) (y0 : Int64), p_ev scr 86 0 [.long y0, p_U, p_U] [] w = p_ev scr 86 1 [.long y0, p_U, p_U] [.int (nI 0)] w) ∧
  (∀ (scr : pX) (w : pW) (y0 : Int64) (s0 : Int32), p_ev scr 86 1 [.long y0, p_U, p_U] [.int s0] w = p_ev scr 86 2 [.long y0, p_U, .int s0] [] w) ∧
  (∀ (scr : pX) (w : pW) (y0 : Int64) (x2 : Int32) (s0 : Int32), p_ev scr 86 3 [.long y0, p_U, .int x2] [.int s0] w = p_ev scr 86 5 [.long y0, p_U, .int x2] [.int (nI 63), .int s0] w) ∧
  (∀ (scr : pX) (w : pW) (y0 : Int64) (x2 : Int32) (s0 : Int32) (s1 : Int32), p_ev scr 86 5 [.long y0, p_U, .int x2] [.int s0, .int s1] w = if s0 ≤ s1 then p_ev scr 86 22 [.long y0, p_U, .int x2] [] w else p_ev scr 86 8 [.long y0, p_U, .int x2] [] w) ∧
  (∀ (scr : pX) (w : pW) (y0 : Int64) (x2 : Int32), p_ev scr 86 8 [.long y0, p_U, .int x2] [] w = p_ev scr 86 9 [.long y0, p_U, .int x2] [.long y0] w) ∧
  (∀ (scr : pX) (w : pW) (y0 : Int64) (x2 : Int32) (t0 : Int64), p_ev scr 86 9 [.long y0, p_U, .int x2] [.long t0] w = p_ev scr 86 10 [.long y0, p_U, .int x2] [.int x2, .long t0] w) ∧
  (∀ (scr : pX) (w : pW) (y0 : Int64) (x2 : Int32) (s0 : Int32) (t1 : Int64), p_ev scr 86 10 [.long y0, p_U, .int x2] [.int s0, .long t1] w = p_ev scr 86 11 [.long y0, p_U, .int x2] [.long (t1 >>> (s0.toInt64 &&& 63))] w) ∧
  (∀ (scr : pX) (w : pW) (y0 : Int64) (x2 : Int32) (t0 : Int64), p_ev scr 86 11 [.long y0, p_U, .int x2] [.long t0] w = p_ev scr 86 12 [.long y0, p_U, .int x2] [.long (lN 0), .long t0] w) ∧
  (∀ (scr : pX) (w : pW) (y0 : Int64) (x2 : Int32) (t0 : Int64) (t1 : Int64), p_ev scr 86 12 [.long y0, p_U, .int x2] [.long t0, .long t1] w = p_ev scr 86 13 [.long y0, p_U, .int x2] [.int (lg_cmp t1 t0)] w) ∧
  (∀ (scr : pX) (w : pW) (y0 : Int64) (x2 : Int32) (s0 : Int32), p_ev scr 86 13 [.long y0, p_U, .int x2] [.int s0] w = if s0 = nI 0 then p_ev scr 86 22 [.long y0, p_U, .int x2] [] w else p_ev scr 86 16 [.long y0, p_U, .int x2] [] w) ∧
  (∀ (scr : pX) (w : pW) (y0 : Int64) (x2 : Int32), p_ev scr 86 16 [.long y0, p_U, .int x2] [] w = p_ev scr 86 19 [.long y0, p_U, .int (x2 + (nI 1))] [] w) ∧
  (∀ (scr : pX) (w : pW) (y0 : Int64) (x2 : Int32), p_ev scr 86 19 [.long y0, p_U, .int x2] [] w = p_ev scr 86 2 [.long y0, p_U, .int x2] [] w) ∧
  (∀ (scr : pX) (w : pW) (y0 : Int64) (x2 : Int32), p_ev scr 86 22 [.long y0, p_U, .int x2] [] w = p_ev scr 86 23 [.long y0, p_U, .int x2] [.int x2] w) ∧
  (∀ (scr : pX) (w : pW) (y0 : Int64) (x2 : Int32) (s0 : Int32), p_ev scr 86 23 [.long y0, p_U, .int x2] [.int s0] w = some (.inl (some (.int s0)), w, 0)) :=
  ⟨fun _ _ _ => p_r (by decide +kernel : p_at 86 0 = some (.iconst 0)) rfl,
  fun _ _ _ _ => p_r (by decide +kernel : p_at 86 1 = some (.istore_n 2)) rfl,
  fun _ _ _ _ _ => p_r (by decide +kernel : p_at 86 3 = some (.bipush 63)) rfl,
  fun _ _ _ _ _ _ => p_rb2 (c := fun x y => decide (y ≤ x)) (off := 17) (by decide +kernel : p_at 86 5 = some (.if_icmp .ge 17)) (by decide +kernel) rfl rfl rfl,
  fun _ _ _ _ => p_r (by decide +kernel : p_at 86 8 = some (.lload_n 0)) rfl,
  fun _ _ _ _ _ => p_r (by decide +kernel : p_at 86 9 = some (.iload_n 2)) rfl,
  fun _ _ _ _ _ _ => p_r (by decide +kernel : p_at 86 10 = some (.lshr)) rfl,
  fun _ _ _ _ _ => p_r (by decide +kernel : p_at 86 11 = some (.lconst 0)) rfl,
  fun _ _ _ _ _ _ => p_r (by decide +kernel : p_at 86 12 = some (.lcmp)) rfl,
  fun _ _ _ _ _ => p_rb1 (c := fun x => decide (x = 0)) (off := 9) (by decide +kernel : p_at 86 13 = some (.ifCond .eq 9)) (by decide +kernel) rfl rfl rfl,
  fun _ _ _ _ => p_r (by decide +kernel : p_at 86 16 = some (.iinc 2 1)) rfl,
  fun _ _ _ _ => p_rgo (by decide +kernel : p_at 86 19 = some (.goto (-17))) (by decide +kernel),
  fun _ _ _ _ => p_r (by decide +kernel : p_at 86 22 = some (.iload_n 2)) rfl,
  fun _ _ _ _ _ => p_riret (by decide +kernel : p_at 86 23 = some (.ireturn)) (by decide +kernel)⟩
theorem H86_2 :
  (∀ (scr : pX) (w : pW) (y0 : Int64) (x2 : Int32), p_ev scr 86 2 [.long y0, p_U, .int x2] [] w = p_ev scr 86 3 [.long y0, p_U, .int x2] [.int x2] w) :=
  fun _ _ _ _ => p_r (by decide +kernel : p_at 86 2 = some (.iload_n 2)) rfl
-- 87: gatherSamples
theorem M87 :
  (∀ (scr : pX) (w : pW), p_ev scr 87 0 [.ref 0] [] w = p_ev scr 87 1 [.ref 0] [.ref 0] w) ∧
  (∀ (scr : pX) (w : pW), p_ev scr 87 1 [.ref 0] [.ref 0] w = p_ev scr 87 4 [.ref 0] [.ref 5] w) ∧
  (∀ (scr : pX) (w : pW), p_ev scr 87 4 [.ref 0] [.ref 5] w = p_ev scr 87 5 [.ref 0] [.ref 0, .ref 5] w) ∧
  (∀ (scr : pX) (w : pW), p_ev scr 87 5 [.ref 0] [.ref 0, .ref 5] w = p_ev scr 87 8 [.ref 0] [.ref 4, .ref 5] w) ∧
  (∀ (scr : pX) (w : pW), p_ev scr 87 8 [.ref 0] [.ref 4, .ref 5] w = p_bnd scr 87 8 11 [.ref 0] [] (p_ev none 28 0 [.ref 5, .ref 4, p_U] [] w)) ∧
  (∀ (scr : pX) (w : pW), p_ev scr 87 11 [.ref 0] [] w = p_ev scr 87 12 [.ref 0] [.ref 0] w) ∧
  (∀ (scr : pX) (w : pW), p_ev scr 87 12 [.ref 0] [.ref 0] w = p_ev scr 87 13 [.ref 0] [.ref 0, .ref 0] w) ∧
  (∀ (scr : pX) (w : pW), p_ev scr 87 13 [.ref 0] [.ref 0, .ref 0] w = p_ev scr 87 16 [.ref 0] [.ref 5, .ref 0] w) ∧
  (∀ (scr : pX) (w : pW), p_ev scr 87 16 [.ref 0] [.ref 5, .ref 0] w = p_ev scr 87 17 [.ref 0] [.int (nI 1), .ref 5, .ref 0] w) ∧
  (∀ (scr : pX) (w : pW) (s0 : Int32), p_ev scr 87 17 [.ref 0] [.int s0, .ref 5, .ref 0] w = p_bnd scr 87 17 20 [.ref 0] [] (p_ev none 82 0 [.ref 0, .ref 5, .int s0, p_U, p_U] [] w)) ∧
  (∀ (scr : pX) (w : pW) (s0 : Int32), p_ev scr 87 20 [.ref 0] [.int s0] w = p_ev scr 87 21 [.ref 0] [] w) ∧
  (∀ (scr : pX) (w : pW), p_ev scr 87 21 [.ref 0] [] w = some (.inl none, w, 0)) :=
  ⟨fun _ _ => p_r (by decide +kernel : p_at 87 0 = some (.aload_n 0)) rfl,
  fun _ _ => p_rgf (f := some 5) (by decide +kernel : p_at 87 1 = some (.getfield 37)) (by decide +kernel : p_fld (p_own 87) 37 = some (4, 4)) (rfl : p_ob 0 = some (.inr (4, [some 1, some 2, some 4, some 3, some 5, some 6, some 7, some 19]))) rfl,
  fun _ _ => p_r (by decide +kernel : p_at 87 4 = some (.aload_n 0)) rfl,
  fun _ _ => p_rgf (f := some 4) (by decide +kernel : p_at 87 5 = some (.getfield 26)) (by decide +kernel : p_fld (p_own 87) 26 = some (4, 2)) (rfl : p_ob 0 = some (.inr (4, [some 1, some 2, some 4, some 3, some 5, some 6, some 7, some 19]))) rfl,
  fun _ _ => p_rcv (nl := 3) (by decide +kernel : p_at 87 8 = some (.invokevirtual 260)) (by decide +kernel : p_inv (p_own 87) 260 = some (1, 28, 2)) (by decide +kernel) (rfl : p_ob 5 = some (.inr (2, [some 12]))) rfl rfl (Nat.le_of_ble_eq_true rfl) (Nat.le_of_ble_eq_true rfl) (Nat.le_of_ble_eq_true rfl) rfl,
  fun _ _ => p_r (by decide +kernel : p_at 87 11 = some (.aload_n 0)) rfl,
  fun _ _ => p_r (by decide +kernel : p_at 87 12 = some (.aload_n 0)) rfl,
  fun _ _ => p_rgf (f := some 5) (by decide +kernel : p_at 87 13 = some (.getfield 37)) (by decide +kernel : p_fld (p_own 87) 37 = some (4, 4)) (rfl : p_ob 0 = some (.inr (4, [some 1, some 2, some 4, some 3, some 5, some 6, some 7, some 19]))) rfl,
  fun _ _ => p_r (by decide +kernel : p_at 87 16 = some (.iconst 1)) rfl,
  fun _ _ _ => p_rcv (nl := 5) (by decide +kernel : p_at 87 17 = some (.invokevirtual 242)) (by decide +kernel : p_inv (p_own 87) 242 = some (1, 82, 3)) (by decide +kernel) (rfl : p_ob 0 = some (.inr (4, [some 1, some 2, some 4, some 3, some 5, some 6, some 7, some 19]))) rfl rfl (Nat.le_of_ble_eq_true rfl) (Nat.le_of_ble_eq_true rfl) (Nat.le_of_ble_eq_true rfl) rfl,
  fun _ _ _ => p_r (by decide +kernel : p_at 87 20 = some (.pop)) rfl,
  fun _ _ => p_rvret (by decide +kernel : p_at 87 21 = some (.return_)) (by decide +kernel)⟩
-- 88: zeroUpTo
theorem M88 :
  (∀ (scr : pX) (w : pW) (x1 : Int32) (x2 : Int32) (x3 : Int32), p_ev scr 88 0 [.ref 0, .int x1, .int x2, .int x3, p_U, p_U, p_U, p_U, p_U] [] w = p_ev scr 88 1 [.ref 0, .int x1, .int x2, .int x3, p_U, p_U, p_U, p_U, p_U] [.int (nI 0)] w) ∧
  (∀ (scr : pX) (w : pW) (x1 : Int32) (x2 : Int32) (x3 : Int32) (s0 : Int32), p_ev scr 88 1 [.ref 0, .int x1, .int x2, .int x3, p_U, p_U, p_U, p_U, p_U] [.int s0] w = p_ev scr 88 3 [.ref 0, .int x1, .int x2, .int x3, .int s0, p_U, p_U, p_U, p_U] [] w) ∧
  (∀ (scr : pX) (w : pW) (x1 : Int32) (x2 : Int32) (x3 : Int32) (x4 : Int32), p_ev scr 88 3 [.ref 0, .int x1, .int x2, .int x3, .int x4, p_U, p_U, p_U, p_U] [] w = p_ev scr 88 4 [.ref 0, .int x1, .int x2, .int x3, .int x4, p_U, p_U, p_U, p_U] [.ref 0] w) ∧
  (∀ (scr : pX) (w : pW) (x1 : Int32) (x2 : Int32) (x3 : Int32) (x4 : Int32), p_ev scr 88 4 [.ref 0, .int x1, .int x2, .int x3, .int x4, p_U, p_U, p_U, p_U] [.ref 0] w = p_ev scr 88 7 [.ref 0, .int x1, .int x2, .int x3, .int x4, p_U, p_U, p_U, p_U] [.ref 1] w) ∧
  (∀ (scr : pX) (w : pW) (x1 : Int32) (x2 : Int32) (x3 : Int32) (x4 : Int32), p_ev scr 88 7 [.ref 0, .int x1, .int x2, .int x3, .int x4, p_U, p_U, p_U, p_U] [.ref 1] w = p_ev scr 88 8 [.ref 0, .int x1, .int x2, .int x3, .int x4, p_U, p_U, p_U, p_U] [.int x1, .ref 1] w) ∧
  (∀ (scr : pX) (w : pW) (x1 : Int32) (x2 : Int32) (x3 : Int32) (x4 : Int32) (s0 : Int32), p_ev scr 88 8 [.ref 0, .int x1, .int x2, .int x3, .int x4, p_U, p_U, p_U, p_U] [.int s0, .ref 1] w = p_bnd scr 88 8 11 [.ref 0, .int x1, .int x2, .int x3, .int x4, p_U, p_U, p_U, p_U] [] (p_ev none 40 0 [.ref 1, .int s0] [] w)) ∧
  (∀ (scr : pX) (w : pW) (x1 : Int32) (x2 : Int32) (x3 : Int32) (x4 : Int32) (s0 : Int32), p_ev scr 88 11 [.ref 0, .int x1, .int x2, .int x3, .int x4, p_U, p_U, p_U, p_U] [.int s0] w = p_ev scr 88 12 [.ref 0, .int x1, .int x2, .int x3, .int x4, p_U, p_U, p_U, p_U] [.ref 0, .int s0] w) ∧
  (∀ (scr : pX) (w : pW) (x1 : Int32) (x2 : Int32) (x3 : Int32) (x4 : Int32) (s1 : Int32), p_ev scr 88 12 [.ref 0, .int x1, .int x2, .int x3, .int x4, p_U, p_U, p_U, p_U] [.ref 0, .int s1] w = p_ev scr 88 15 [.ref 0, .int x1, .int x2, .int x3, .int x4, p_U, p_U, p_U, p_U] [.ref 1, .int s1] w) ∧
  (∀ (scr : pX) (w : pW) (x1 : Int32) (x2 : Int32) (x3 : Int32) (x4 : Int32) (s1 : Int32), p_ev scr 88 15 [.ref 0, .int x1, .int x2, .int x3, .int x4, p_U, p_U, p_U, p_U] [.ref 1, .int s1] w = p_ev scr 88 16 [.ref 0, .int x1, .int x2, .int x3, .int x4, p_U, p_U, p_U, p_U] [.int x1, .ref 1, .int s1] w) ∧
  (∀ (scr : pX) (w : pW) (x1 : Int32) (x2 : Int32) (x3 : Int32) (x4 : Int32) (s0 : Int32) (s2 : Int32), p_ev scr 88 16 [.ref 0, .int x1, .int x2, .int x3, .int x4, p_U, p_U, p_U, p_U] [.int s0, .ref 1, .int s2] w = p_bnd scr 88 16 19 [.ref 0, .int x1, .int x2, .int x3, .int x4, p_U, p_U, p_U, p_U] [.int s2] (p_ev none 39 0 [.ref 1, .int s0] [] w)) ∧
  (∀ (scr : pX) (w : pW) (x1 : Int32) (x2 : Int32) (x3 : Int32) (x4 : Int32) (s0 : Int32) (s1 : Int32), p_ev scr 88 19 [.ref 0, .int x1, .int x2, .int x3, .int x4, p_U, p_U, p_U, p_U] [.int s0, .int s1] w = p_ev scr 88 20 [.ref 0, .int x1, .int x2, .int x3, .int x4, p_U, p_U, p_U, p_U] [.int (s1 + s0)] w) ∧
  (∀ (scr : pX) (w : pW) (x1 : Int32) (x2 : Int32) (x3 : Int32) (x4 : Int32) (s0 : Int32), p_ev scr 88 20 [.ref 0, .int x1, .int x2, .int x3, .int x4, p_U, p_U, p_U, p_U] [.int s0] w = p_ev scr 88 22 [.ref 0, .int x1, .int x2, .int x3, .int x4, .int s0, p_U, p_U, p_U] [] w) ∧
  (∀ (scr : pX) (w : pW) (x1 : Int32) (x2 : Int32) (x3 : Int32) (x4 : Int32) (x5 : Int32), p_ev scr 88 22 [.ref 0, .int x1, .int x2, .int x3, .int x4, .int x5, p_U, p_U, p_U] [] w = p_ev scr 88 23 [.ref 0, .int x1, .int x2, .int x3, .int x4, .int x5, p_U, p_U, p_U] [.ref 0] w) ∧
  (∀ (scr : pX) (w : pW) (x1 : Int32) (x2 : Int32) (x3 : Int32) (x4 : Int32) (x5 : Int32), p_ev scr 88 23 [.ref 0, .int x1, .int x2, .int x3, .int x4, .int x5, p_U, p_U, p_U] [.ref 0] w = p_ev scr 88 26 [.ref 0, .int x1, .int x2, .int x3, .int x4, .int x5, p_U, p_U, p_U] [.ref 1] w) ∧
  (∀ (scr : pX) (w : pW) (x1 : Int32) (x2 : Int32) (x3 : Int32) (x4 : Int32) (x5 : Int32), p_ev scr 88 26 [.ref 0, .int x1, .int x2, .int x3, .int x4, .int x5, p_U, p_U, p_U] [.ref 1] w = p_ev scr 88 27 [.ref 0, .int x1, .int x2, .int x3, .int x4, .int x5, p_U, p_U, p_U] [.int x1, .ref 1] w) ∧
  (∀ (scr : pX) (w : pW) (x1 : Int32) (x2 : Int32) (x3 : Int32) (x4 : Int32) (x5 : Int32) (s0 : Int32), p_ev scr 88 27 [.ref 0, .int x1, .int x2, .int x3, .int x4, .int x5, p_U, p_U, p_U] [.int s0, .ref 1] w = p_bnd scr 88 27 30 [.ref 0, .int x1, .int x2, .int x3, .int x4, .int x5, p_U, p_U, p_U] [] (p_ev none 40 0 [.ref 1, .int s0] [] w)) ∧
  (∀ (scr : pX) (w : pW) (x1 : Int32) (x2 : Int32) (x3 : Int32) (x4 : Int32) (x5 : Int32) (s0 : Int32), p_ev scr 88 30 [.ref 0, .int x1, .int x2, .int x3, .int x4, .int x5, p_U, p_U, p_U] [.int s0] w = p_ev scr 88 32 [.ref 0, .int x1, .int x2, .int x3, .int x4, .int x5, .int s0, p_U, p_U] [] w) ∧
  (∀ (scr : pX) (w : pW) (x1 : Int32) (x2 : Int32) (x3 : Int32) (x4 : Int32) (x5 : Int32) (x6 : Int32) (z7 : Value) (s0 : Int32), p_ev scr 88 34 [.ref 0, .int x1, .int x2, .int x3, .int x4, .int x5, .int x6, z7, p_U] [.int s0] w = p_ev scr 88 36 [.ref 0, .int x1, .int x2, .int x3, .int x4, .int x5, .int x6, z7, p_U] [.int x5, .int s0] w) ∧
  (∀ (scr : pX) (w : pW) (x1 : Int32) (x2 : Int32) (x3 : Int32) (x4 : Int32) (x5 : Int32) (x6 : Int32) (z7 : Value) (s0 : Int32) (s1 : Int32), p_ev scr 88 36 [.ref 0, .int x1, .int x2, .int x3, .int x4, .int x5, .int x6, z7, p_U] [.int s0, .int s1] w = if s0 ≤ s1 then p_ev scr 88 123 [.ref 0, .int x1, .int x2, .int x3, .int x4, .int x5, .int x6, z7, p_U] [] w else p_ev scr 88 39 [.ref 0, .int x1, .int x2, .int x3, .int x4, .int x5, .int x6, z7, p_U] [] w) ∧
  (∀ (scr : pX) (w : pW) (x1 : Int32) (x2 : Int32) (x3 : Int32) (x4 : Int32) (x5 : Int32) (x6 : Int32) (z7 : Value), p_ev scr 88 39 [.ref 0, .int x1, .int x2, .int x3, .int x4, .int x5, .int x6, z7, p_U] [] w = p_ev scr 88 40 [.ref 0, .int x1, .int x2, .int x3, .int x4, .int x5, .int x6, z7, p_U] [.ref 0] w) ∧
  (∀ (scr : pX) (w : pW) (x1 : Int32) (x2 : Int32) (x3 : Int32) (x4 : Int32) (x5 : Int32) (x6 : Int32) (z7 : Value), p_ev scr 88 40 [.ref 0, .int x1, .int x2, .int x3, .int x4, .int x5, .int x6, z7, p_U] [.ref 0] w = p_ev scr 88 43 [.ref 0, .int x1, .int x2, .int x3, .int x4, .int x5, .int x6, z7, p_U] [.ref 4] w) ∧
  (∀ (scr : pX) (w : pW) (x1 : Int32) (x2 : Int32) (x3 : Int32) (x4 : Int32) (x5 : Int32) (x6 : Int32) (z7 : Value), p_ev scr 88 43 [.ref 0, .int x1, .int x2, .int x3, .int x4, .int x5, .int x6, z7, p_U] [.ref 4] w = p_ev scr 88 45 [.ref 0, .int x1, .int x2, .int x3, .int x4, .int x5, .int x6, z7, p_U] [.int x6, .ref 4] w) ∧
  (∀ (scr : pX) (w : pW) (x1 : Int32) (x2 : Int32) (x3 : Int32) (x4 : Int32) (x5 : Int32) (x6 : Int32) (z7 : Value) (s0 : Int32), p_ev scr 88 45 [.ref 0, .int x1, .int x2, .int x3, .int x4, .int x5, .int x6, z7, p_U] [.int s0, .ref 4] w = p_bnd scr 88 45 48 [.ref 0, .int x1, .int x2, .int x3, .int x4, .int x5, .int x6, z7, p_U] [] (p_ev none 24 0 [.ref 4, .int s0] [] w)) ∧
  (∀ (scr : pX) (w : pW) (x1 : Int32) (x2 : Int32) (x3 : Int32) (x4 : Int32) (x5 : Int32) (x6 : Int32) (z7 : Value) (t0 : Int64), p_ev scr 88 48 [.ref 0, .int x1, .int x2, .int x3, .int x4, .int x5, .int x6, z7, p_U] [.long t0] w = p_ev scr 88 50 [.ref 0, .int x1, .int x2, .int x3, .int x4, .int x5, .int x6, .long t0, p_U] [] w) ∧
  (∀ (scr : pX) (w : pW) (x1 : Int32) (x2 : Int32) (x3 : Int32) (x4 : Int32) (x5 : Int32) (x6 : Int32) (y7 : Int64), p_ev scr 88 50 [.ref 0, .int x1, .int x2, .int x3, .int x4, .int x5, .int x6, .long y7, p_U] [] w = p_ev scr 88 51 [.ref 0, .int x1, .int x2, .int x3, .int x4, .int x5, .int x6, .long y7, p_U] [.ref 0] w) ∧
  (∀ (scr : pX) (w : pW) (x1 : Int32) (x2 : Int32) (x3 : Int32) (x4 : Int32) (x5 : Int32) (x6 : Int32) (y7 : Int64), p_ev scr 88 51 [.ref 0, .int x1, .int x2, .int x3, .int x4, .int x5, .int x6, .long y7, p_U] [.ref 0] w = p_ev scr 88 54 [.ref 0, .int x1, .int x2, .int x3, .int x4, .int x5, .int x6, .long y7, p_U] [.ref 4] w) ∧
  (∀ (scr : pX) (w : pW) (x1 : Int32) (x2 : Int32) (x3 : Int32) (x4 : Int32) (x5 : Int32) (x6 : Int32) (y7 : Int64), p_ev scr 88 54 [.ref 0, .int x1, .int x2, .int x3, .int x4, .int x5, .int x6, .long y7, p_U] [.ref 4] w = p_ev scr 88 56 [.ref 0, .int x1, .int x2, .int x3, .int x4, .int x5, .int x6, .long y7, p_U] [.int x6, .ref 4] w) ∧
  (∀ (scr : pX) (w : pW) (x1 : Int32) (x2 : Int32) (x3 : Int32) (x4 : Int32) (x5 : Int32) (x6 : Int32) (y7 : Int64) (s0 : Int32), p_ev scr 88 56 [.ref 0, .int x1, .int x2, .int x3, .int x4, .int x5, .int x6, .long y7, p_U] [.int s0, .ref 4] w = p_bnd scr 88 56 59 [.ref 0, .int x1, .int x2, .int x3, .int x4, .int x5, .int x6, .long y7, p_U] [] (p_ev none 26 0 [.ref 4, .int s0] [] w)) ∧
  (∀ (scr : pX) (w : pW) (x1 : Int32) (x2 : Int32) (x3 : Int32) (x4 : Int32) (x5 : Int32) (x6 : Int32) (y7 : Int64) (t0 : Int64), p_ev scr 88 59 [.ref 0, .int x1, .int x2, .int x3, .int x4, .int x5, .int x6, .long y7, p_U] [.long t0] w = p_ev scr 88 60 [.ref 0, .int x1, .int x2, .int x3, .int x4, .int x5, .int x6, .long y7, p_U] [.int x2, .long t0] w) ∧
  (∀ (scr : pX) (w : pW) (x1 : Int32) (x2 : Int32) (x3 : Int32) (x4 : Int32) (x5 : Int32) (x6 : Int32) (y7 : Int64) (s0 : Int32) (t1 : Int64), p_ev scr 88 60 [.ref 0, .int x1, .int x2, .int x3, .int x4, .int x5, .int x6, .long y7, p_U] [.int s0, .long t1] w = p_ev scr 88 61 [.ref 0, .int x1, .int x2, .int x3, .int x4, .int x5, .int x6, .long y7, p_U] [.long s0.toInt64, .long t1] w) ∧
  (∀ (scr : pX) (w : pW) (x1 : Int32) (x2 : Int32) (x3 : Int32) (x4 : Int32) (x5 : Int32) (x6 : Int32) (y7 : Int64) (t0 : Int64) (t1 : Int64), p_ev scr 88 61 [.ref 0, .int x1, .int x2, .int x3, .int x4, .int x5, .int x6, .long y7, p_U] [.long t0, .long t1] w = p_ev scr 88 62 [.ref 0, .int x1, .int x2, .int x3, .int x4, .int x5, .int x6, .long y7, p_U] [.int (lg_cmp t1 t0)] w) ∧
  (∀ (scr : pX) (w : pW) (x1 : Int32) (x2 : Int32) (x3 : Int32) (x4 : Int32) (x5 : Int32) (x6 : Int32) (y7 : Int64) (s0 : Int32), p_ev scr 88 62 [.ref 0, .int x1, .int x2, .int x3, .int x4, .int x5, .int x6, .long y7, p_U] [.int s0] w = if s0 ≤ nI 0 then p_ev scr 88 97 [.ref 0, .int x1, .int x2, .int x3, .int x4, .int x5, .int x6, .long y7, p_U] [] w else p_ev scr 88 65 [.ref 0, .int x1, .int x2, .int x3, .int x4, .int x5, .int x6, .long y7, p_U] [] w) ∧
  (∀ (scr : pX) (w : pW) (x1 : Int32) (x2 : Int32) (x3 : Int32) (x4 : Int32) (x5 : Int32) (x6 : Int32) (y7 : Int64), p_ev scr 88 65 [.ref 0, .int x1, .int x2, .int x3, .int x4, .int x5, .int x6, .long y7, p_U] [] w = p_ev scr 88 66 [.ref 0, .int x1, .int x2, .int x3, .int x4, .int x5, .int x6, .long y7, p_U] [.ref 0] w) ∧
  (∀ (scr : pX) (w : pW) (x1 : Int32) (x2 : Int32) (x3 : Int32) (x4 : Int32) (x5 : Int32) (x6 : Int32) (y7 : Int64), p_ev scr 88 66 [.ref 0, .int x1, .int x2, .int x3, .int x4, .int x5, .int x6, .long y7, p_U] [.ref 0] w = p_ev scr 88 69 [.ref 0, .int x1, .int x2, .int x3, .int x4, .int x5, .int x6, .long y7, p_U] [.ref 4] w) ∧
  (∀ (scr : pX) (w : pW) (x1 : Int32) (x2 : Int32) (x3 : Int32) (x4 : Int32) (x5 : Int32) (x6 : Int32) (y7 : Int64), p_ev scr 88 69 [.ref 0, .int x1, .int x2, .int x3, .int x4, .int x5, .int x6, .long y7, p_U] [.ref 4] w = p_ev scr 88 71 [.ref 0, .int x1, .int x2, .int x3, .int x4, .int x5, .int x6, .long y7, p_U] [.int x6, .ref 4] w) ∧
  (∀ (scr : pX) (w : pW) (x1 : Int32) (x2 : Int32) (x3 : Int32) (x4 : Int32) (x5 : Int32) (x6 : Int32) (y7 : Int64) (s0 : Int32), p_ev scr 88 71 [.ref 0, .int x1, .int x2, .int x3, .int x4, .int x5, .int x6, .long y7, p_U] [.int s0, .ref 4] w = p_ev scr 88 73 [.ref 0, .int x1, .int x2, .int x3, .int x4, .int x5, .int x6, .long y7, p_U] [.long y7, .int s0, .ref 4] w) ∧
  (∀ (scr : pX) (w : pW) (x1 : Int32) (x2 : Int32) (x3 : Int32) (x4 : Int32) (x5 : Int32) (x6 : Int32) (y7 : Int64) (t0 : Int64) (s1 : Int32), p_ev scr 88 73 [.ref 0, .int x1, .int x2, .int x3, .int x4, .int x5, .int x6, .long y7, p_U] [.long t0, .int s1, .ref 4] w = p_ev scr 88 74 [.ref 0, .int x1, .int x2, .int x3, .int x4, .int x5, .int x6, .long y7, p_U] [.long (lN 0), .long t0, .int s1, .ref 4] w) ∧
  (∀ (scr : pX) (w : pW) (x1 : Int32) (x2 : Int32) (x3 : Int32) (x4 : Int32) (x5 : Int32) (x6 : Int32) (y7 : Int64) (t0 : Int64) (t1 : Int64) (s2 : Int32), p_ev scr 88 74 [.ref 0, .int x1, .int x2, .int x3, .int x4, .int x5, .int x6, .long y7, p_U] [.long t0, .long t1, .int s2, .ref 4] w = p_ev scr 88 75 [.ref 0, .int x1, .int x2, .int x3, .int x4, .int x5, .int x6, .long y7, p_U] [.int (lg_cmp t1 t0), .int s2, .ref 4] w) ∧
  (∀ (scr : pX) (w : pW) (x1 : Int32) (x2 : Int32) (x3 : Int32) (x4 : Int32) (x5 : Int32) (x6 : Int32) (y7 : Int64) (s0 : Int32) (s1 : Int32), p_ev scr 88 75 [.ref 0, .int x1, .int x2, .int x3, .int x4, .int x5, .int x6, .long y7, p_U] [.int s0, .int s1, .ref 4] w = if nI 0 ≤ s0 then p_ev scr 88 86 [.ref 0, .int x1, .int x2, .int x3, .int x4, .int x5, .int x6, .long y7, p_U] [.int s1, .ref 4] w else p_ev scr 88 78 [.ref 0, .int x1, .int x2, .int x3, .int x4, .int x5, .int x6, .long y7, p_U] [.int s1, .ref 4] w) ∧
  (∀ (scr : pX) (w : pW) (x1 : Int32) (x2 : Int32) (x3 : Int32) (x4 : Int32) (x5 : Int32) (x6 : Int32) (y7 : Int64) (s0 : Int32), p_ev scr 88 78 [.ref 0, .int x1, .int x2, .int x3, .int x4, .int x5, .int x6, .long y7, p_U] [.int s0, .ref 4] w = p_ev scr 88 80 [.ref 0, .int x1, .int x2, .int x3, .int x4, .int x5, .int x6, .long y7, p_U] [.long y7, .int s0, .ref 4] w) ∧
  (∀ (scr : pX) (w : pW) (x1 : Int32) (x2 : Int32) (x3 : Int32) (x4 : Int32) (x5 : Int32) (x6 : Int32) (y7 : Int64) (t0 : Int64) (s1 : Int32), p_ev scr 88 80 [.ref 0, .int x1, .int x2, .int x3, .int x4, .int x5, .int x6, .long y7, p_U] [.long t0, .int s1, .ref 4] w = p_ev scr 88 81 [.ref 0, .int x1, .int x2, .int x3, .int x4, .int x5, .int x6, .long y7, p_U] [.int x3, .long t0, .int s1, .ref 4] w) ∧
  (∀ (scr : pX) (w : pW) (x1 : Int32) (x2 : Int32) (x3 : Int32) (x4 : Int32) (x5 : Int32) (x6 : Int32) (y7 : Int64) (s0 : Int32) (t1 : Int64) (s2 : Int32), p_ev scr 88 81 [.ref 0, .int x1, .int x2, .int x3, .int x4, .int x5, .int x6, .long y7, p_U] [.int s0, .long t1, .int s2, .ref 4] w = p_ev scr 88 82 [.ref 0, .int x1, .int x2, .int x3, .int x4, .int x5, .int x6, .long y7, p_U] [.long s0.toInt64, .long t1, .int s2, .ref 4] w) ∧
  (∀ (scr : pX) (w : pW) (x1 : Int32) (x2 : Int32) (x3 : Int32) (x4 : Int32) (x5 : Int32) (x6 : Int32) (y7 : Int64) (t0 : Int64) (t1 : Int64) (s2 : Int32), p_ev scr 88 82 [.ref 0, .int x1, .int x2, .int x3, .int x4, .int x5, .int x6, .long y7, p_U] [.long t0, .long t1, .int s2, .ref 4] w = p_ev scr 88 83 [.ref 0, .int x1, .int x2, .int x3, .int x4, .int x5, .int x6, .long y7, p_U] [.long (t1 + t0), .int s2, .ref 4] w) ∧
  (∀ (scr : pX) (w : pW) (x1 : Int32) (x2 : Int32) (x3 : Int32) (x4 : Int32) (x5 : Int32) (x6 : Int32) (y7 : Int64) (t0 : Int64) (s1 : Int32), p_ev scr 88 83 [.ref 0, .int x1, .int x2, .int x3, .int x4, .int x5, .int x6, .long y7, p_U] [.long t0, .int s1, .ref 4] w = p_ev scr 88 91 [.ref 0, .int x1, .int x2, .int x3, .int x4, .int x5, .int x6, .long y7, p_U] [.long t0, .int s1, .ref 4] w) ∧
  (∀ (scr : pX) (w : pW) (x1 : Int32) (x2 : Int32) (x3 : Int32) (x4 : Int32) (x5 : Int32) (x6 : Int32) (y7 : Int64) (s0 : Int32), p_ev scr 88 86 [.ref 0, .int x1, .int x2, .int x3, .int x4, .int x5, .int x6, .long y7, p_U] [.int s0, .ref 4] w = p_ev scr 88 88 [.ref 0, .int x1, .int x2, .int x3, .int x4, .int x5, .int x6, .long y7, p_U] [.long y7, .int s0, .ref 4] w) ∧
  (∀ (scr : pX) (w : pW) (x1 : Int32) (x2 : Int32) (x3 : Int32) (x4 : Int32) (x5 : Int32) (x6 : Int32) (y7 : Int64) (t0 : Int64) (s1 : Int32), p_ev scr 88 88 [.ref 0, .int x1, .int x2, .int x3, .int x4, .int x5, .int x6, .long y7, p_U] [.long t0, .int s1, .ref 4] w = p_ev scr 88 89 [.ref 0, .int x1, .int x2, .int x3, .int x4, .int x5, .int x6, .long y7, p_U] [.int x3, .long t0, .int s1, .ref 4] w) ∧
  (∀ (scr : pX) (w : pW) (x1 : Int32) (x2 : Int32) (x3 : Int32) (x4 : Int32) (x5 : Int32) (x6 : Int32) (y7 : Int64) (s0 : Int32) (t1 : Int64) (s2 : Int32), p_ev scr 88 89 [.ref 0, .int x1, .int x2, .int x3, .int x4, .int x5, .int x6, .long y7, p_U] [.int s0, .long t1, .int s2, .ref 4] w = p_ev scr 88 90 [.ref 0, .int x1, .int x2, .int x3, .int x4, .int x5, .int x6, .long y7, p_U] [.long s0.toInt64, .long t1, .int s2, .ref 4] w) ∧
  (∀ (scr : pX) (w : pW) (x1 : Int32) (x2 : Int32) (x3 : Int32) (x4 : Int32) (x5 : Int32) (x6 : Int32) (y7 : Int64) (t0 : Int64) (t1 : Int64) (s2 : Int32), p_ev scr 88 90 [.ref 0, .int x1, .int x2, .int x3, .int x4, .int x5, .int x6, .long y7, p_U] [.long t0, .long t1, .int s2, .ref 4] w = p_ev scr 88 91 [.ref 0, .int x1, .int x2, .int x3, .int x4, .int x5, .int x6, .long y7, p_U] [.long (t1 - t0), .int s2, .ref 4] w) ∧
  (∀ (scr : pX) (w : pW) (x1 : Int32) (x2 : Int32) (x3 : Int32) (x4 : Int32) (x5 : Int32) (x6 : Int32) (y7 : Int64) (t0 : Int64) (s1 : Int32), p_ev scr 88 91 [.ref 0, .int x1, .int x2, .int x3, .int x4, .int x5, .int x6, .long y7, p_U] [.long t0, .int s1, .ref 4] w = p_bnd scr 88 91 94 [.ref 0, .int x1, .int x2, .int x3, .int x4, .int x5, .int x6, .long y7, p_U] [] (p_ev none 25 0 [.ref 4, .int s1, .long t0, p_U] [] w)) ∧
  (∀ (scr : pX) (w : pW) (x1 : Int32) (x2 : Int32) (x3 : Int32) (x4 : Int32) (x5 : Int32) (x6 : Int32) (y7 : Int64), p_ev scr 88 94 [.ref 0, .int x1, .int x2, .int x3, .int x4, .int x5, .int x6, .long y7, p_U] [] w = p_ev scr 88 117 [.ref 0, .int x1, .int x2, .int x3, .int x4, .int x5, .int x6, .long y7, p_U] [] w) ∧
  (∀ (scr : pX) (w : pW) (x1 : Int32) (x2 : Int32) (x3 : Int32) (x4 : Int32) (x5 : Int32) (x6 : Int32) (y7 : Int64), p_ev scr 88 97 [.ref 0, .int x1, .int x2, .int x3, .int x4, .int x5, .int x6, .long y7, p_U] [] w = p_ev scr 88 99 [.ref 0, .int x1, .int x2, .int x3, .int x4, .int x5, .int x6, .long y7, p_U] [.long y7] w) ∧
  (∀ (scr : pX) (w : pW) (x1 : Int32) (x2 : Int32) (x3 : Int32) (x4 : Int32) (x5 : Int32) (x6 : Int32) (y7 : Int64) (t0 : Int64), p_ev scr 88 99 [.ref 0, .int x1, .int x2, .int x3, .int x4, .int x5, .int x6, .long y7, p_U] [.long t0] w = p_ev scr 88 100 [.ref 0, .int x1, .int x2, .int x3, .int x4, .int x5, .int x6, .long y7, p_U] [.long (lN 0), .long t0] w) ∧
  (∀ (scr : pX) (w : pW) (x1 : Int32) (x2 : Int32) (x3 : Int32) (x4 : Int32) (x5 : Int32) (x6 : Int32) (y7 : Int64) (t0 : Int64) (t1 : Int64), p_ev scr 88 100 [.ref 0, .int x1, .int x2, .int x3, .int x4, .int x5, .int x6, .long y7, p_U] [.long t0, .long t1] w = p_ev scr 88 101 [.ref 0, .int x1, .int x2, .int x3, .int x4, .int x5, .int x6, .long y7, p_U] [.int (lg_cmp t1 t0)] w) ∧
  (∀ (scr : pX) (w : pW) (x1 : Int32) (x2 : Int32) (x3 : Int32) (x4 : Int32) (x5 : Int32) (x6 : Int32) (y7 : Int64) (s0 : Int32), p_ev scr 88 101 [.ref 0, .int x1, .int x2, .int x3, .int x4, .int x5, .int x6, .long y7, p_U] [.int s0] w = if s0 = nI 0 then p_ev scr 88 117 [.ref 0, .int x1, .int x2, .int x3, .int x4, .int x5, .int x6, .long y7, p_U] [] w else p_ev scr 88 104 [.ref 0, .int x1, .int x2, .int x3, .int x4, .int x5, .int x6, .long y7, p_U] [] w) ∧
  (∀ (scr : pX) (w : pW) (x1 : Int32) (x2 : Int32) (x3 : Int32) (x4 : Int32) (x5 : Int32) (x6 : Int32) (y7 : Int64), p_ev scr 88 104 [.ref 0, .int x1, .int x2, .int x3, .int x4, .int x5, .int x6, .long y7, p_U] [] w = p_ev scr 88 105 [.ref 0, .int x1, .int x2, .int x3, .int x4, .int x5, .int x6, .long y7, p_U] [.ref 0] w) ∧
  (∀ (scr : pX) (w : pW) (x1 : Int32) (x2 : Int32) (x3 : Int32) (x4 : Int32) (x5 : Int32) (x6 : Int32) (y7 : Int64), p_ev scr 88 105 [.ref 0, .int x1, .int x2, .int x3, .int x4, .int x5, .int x6, .long y7, p_U] [.ref 0] w = p_ev scr 88 108 [.ref 0, .int x1, .int x2, .int x3, .int x4, .int x5, .int x6, .long y7, p_U] [.ref 4] w) ∧
  (∀ (scr : pX) (w : pW) (x1 : Int32) (x2 : Int32) (x3 : Int32) (x4 : Int32) (x5 : Int32) (x6 : Int32) (y7 : Int64), p_ev scr 88 108 [.ref 0, .int x1, .int x2, .int x3, .int x4, .int x5, .int x6, .long y7, p_U] [.ref 4] w = p_ev scr 88 110 [.ref 0, .int x1, .int x2, .int x3, .int x4, .int x5, .int x6, .long y7, p_U] [.int x6, .ref 4] w) ∧
  (∀ (scr : pX) (w : pW) (x1 : Int32) (x2 : Int32) (x3 : Int32) (x4 : Int32) (x5 : Int32) (x6 : Int32) (y7 : Int64) (s0 : Int32), p_ev scr 88 110 [.ref 0, .int x1, .int x2, .int x3, .int x4, .int x5, .int x6, .long y7, p_U] [.int s0, .ref 4] w = p_ev scr 88 111 [.ref 0, .int x1, .int x2, .int x3, .int x4, .int x5, .int x6, .long y7, p_U] [.long (lN 0), .int s0, .ref 4] w) ∧
  (∀ (scr : pX) (w : pW) (x1 : Int32) (x2 : Int32) (x3 : Int32) (x4 : Int32) (x5 : Int32) (x6 : Int32) (y7 : Int64) (t0 : Int64) (s1 : Int32), p_ev scr 88 111 [.ref 0, .int x1, .int x2, .int x3, .int x4, .int x5, .int x6, .long y7, p_U] [.long t0, .int s1, .ref 4] w = p_bnd scr 88 111 114 [.ref 0, .int x1, .int x2, .int x3, .int x4, .int x5, .int x6, .long y7, p_U] [] (p_ev none 25 0 [.ref 4, .int s1, .long t0, p_U] [] w)) ∧
  (∀ (scr : pX) (w : pW) (x1 : Int32) (x2 : Int32) (x3 : Int32) (x4 : Int32) (x5 : Int32) (x6 : Int32) (y7 : Int64), p_ev scr 88 114 [.ref 0, .int x1, .int x2, .int x3, .int x4, .int x5, .int x6, .long y7, p_U] [] w = p_ev scr 88 117 [.ref 0, .int x1, .int x2, .int x3, .int (x4 + (nI 1)), .int x5, .int x6, .long y7, p_U] [] w) ∧
  (∀ (scr : pX) (w : pW) (x1 : Int32) (x2 : Int32) (x3 : Int32) (x4 : Int32) (x5 : Int32) (x6 : Int32) (y7 : Int64), p_ev scr 88 117 [.ref 0, .int x1, .int x2, .int x3, .int x4, .int x5, .int x6, .long y7, p_U] [] w = p_ev scr 88 120 [.ref 0, .int x1, .int x2, .int x3, .int x4, .int x5, .int (x6 + (nI 1)), .long y7, p_U] [] w) ∧
  (∀ (scr : pX) (w : pW) (x1 : Int32) (x2 : Int32) (x3 : Int32) (x4 : Int32) (x5 : Int32) (x6 : Int32) (y7 : Int64), p_ev scr 88 120 [.ref 0, .int x1, .int x2, .int x3, .int x4, .int x5, .int x6, .long y7, p_U] [] w = p_ev scr 88 32 [.ref 0, .int x1, .int x2, .int x3, .int x4, .int x5, .int x6, .long y7, p_U] [] w) ∧
  (∀ (scr : pX) (w : pW) (x1 : Int32) (x2 : Int32) (x3 : Int32) (x4 : Int32) (x5 : Int32) (x6 : Int32) (z7 : Value), p_ev scr 88 123 [.ref 0, .int x1, .int x2, .int x3, .int x4, .int x5, .int x6, z7, p_U] [] w = p_ev scr 88 125 [.ref 0, .int x1, .int x2, .int x3, .int x4, .int x5, .int x6, z7, p_U] [.int x4] w) ∧
  (∀ (scr : pX) (w : pW) (x1 : Int32) (x2 : Int32) (x3 : Int32) (x4 : Int32) (x5 : Int32) (x6 : Int32) (z7 : Value) (s0 : Int32), p_ev scr 88 125 [.ref 0, .int x1, .int x2, .int x3, .int x4, .int x5, .int x6, z7, p_U] [.int s0] w = some (.inl (some (.int s0)), w, 0)) :=
  ⟨fun _ _ _ _ _ => p_r (by decide +kernel : p_at 88 0 = some (.iconst 0)) rfl,
  fun _ _ _ _ _ _ => p_r (by decide +kernel : p_at 88 1 = some (.istore 4)) rfl,
  fun _ _ _ _ _ _ => p_r (by decide +kernel : p_at 88 3 = some (.aload_n 0)) rfl,
  fun _ _ _ _ _ _ => p_rgf (f := some 1) (by decide +kernel : p_at 88 4 = some (.getfield 10)) (by decide +kernel : p_fld (p_own 88) 10 = some (4, 0)) (rfl : p_ob 0 = some (.inr (4, [some 1, some 2, some 4, some 3, some 5, some 6, some 7, some 19]))) rfl,
  fun _ _ _ _ _ _ => p_r (by decide +kernel : p_at 88 7 = some (.iload_n 1)) rfl,
  fun _ _ _ _ _ _ _ => p_rcv (nl := 2) (by decide +kernel : p_at 88 8 = some (.invokevirtual 154)) (by decide +kernel : p_inv (p_own 88) 154 = some (1, 40, 2)) (by decide +kernel) (rfl : p_ob 1 = some (.inr (3, [some 18, none]))) rfl rfl (Nat.le_of_ble_eq_true rfl) (Nat.le_of_ble_eq_true rfl) (Nat.le_of_ble_eq_true rfl) rfl,
  fun _ _ _ _ _ _ _ => p_r (by decide +kernel : p_at 88 11 = some (.aload_n 0)) rfl,
  fun _ _ _ _ _ _ _ => p_rgf (f := some 1) (by decide +kernel : p_at 88 12 = some (.getfield 10)) (by decide +kernel : p_fld (p_own 88) 10 = some (4, 0)) (rfl : p_ob 0 = some (.inr (4, [some 1, some 2, some 4, some 3, some 5, some 6, some 7, some 19]))) rfl,
  fun _ _ _ _ _ _ _ => p_r (by decide +kernel : p_at 88 15 = some (.iload_n 1)) rfl,
  fun _ _ _ _ _ _ _ _ => p_rcv (nl := 2) (by decide +kernel : p_at 88 16 = some (.invokevirtual 110)) (by decide +kernel : p_inv (p_own 88) 110 = some (1, 39, 2)) (by decide +kernel) (rfl : p_ob 1 = some (.inr (3, [some 18, none]))) rfl rfl (Nat.le_of_ble_eq_true rfl) (Nat.le_of_ble_eq_true rfl) (Nat.le_of_ble_eq_true rfl) rfl,
  fun _ _ _ _ _ _ _ _ => p_r (by decide +kernel : p_at 88 19 = some (.iadd)) rfl,
  fun _ _ _ _ _ _ _ => p_r (by decide +kernel : p_at 88 20 = some (.istore 5)) rfl,
  fun _ _ _ _ _ _ _ => p_r (by decide +kernel : p_at 88 22 = some (.aload_n 0)) rfl,
  fun _ _ _ _ _ _ _ => p_rgf (f := some 1) (by decide +kernel : p_at 88 23 = some (.getfield 10)) (by decide +kernel : p_fld (p_own 88) 10 = some (4, 0)) (rfl : p_ob 0 = some (.inr (4, [some 1, some 2, some 4, some 3, some 5, some 6, some 7, some 19]))) rfl,
  fun _ _ _ _ _ _ _ => p_r (by decide +kernel : p_at 88 26 = some (.iload_n 1)) rfl,
  fun _ _ _ _ _ _ _ _ => p_rcv (nl := 2) (by decide +kernel : p_at 88 27 = some (.invokevirtual 154)) (by decide +kernel : p_inv (p_own 88) 154 = some (1, 40, 2)) (by decide +kernel) (rfl : p_ob 1 = some (.inr (3, [some 18, none]))) rfl rfl (Nat.le_of_ble_eq_true rfl) (Nat.le_of_ble_eq_true rfl) (Nat.le_of_ble_eq_true rfl) rfl,
  fun _ _ _ _ _ _ _ _ => p_r (by decide +kernel : p_at 88 30 = some (.istore 6)) rfl,
  fun _ _ _ _ _ _ _ _ _ _ => p_r (by decide +kernel : p_at 88 34 = some (.iload 5)) rfl,
  fun _ _ _ _ _ _ _ _ _ _ _ => p_rb2 (c := fun x y => decide (y ≤ x)) (off := 87) (by decide +kernel : p_at 88 36 = some (.if_icmp .ge 87)) (by decide +kernel) rfl rfl rfl,
  fun _ _ _ _ _ _ _ _ _ => p_r (by decide +kernel : p_at 88 39 = some (.aload_n 0)) rfl,
  fun _ _ _ _ _ _ _ _ _ => p_rgf (f := some 4) (by decide +kernel : p_at 88 40 = some (.getfield 26)) (by decide +kernel : p_fld (p_own 88) 26 = some (4, 2)) (rfl : p_ob 0 = some (.inr (4, [some 1, some 2, some 4, some 3, some 5, some 6, some 7, some 19]))) rfl,
  fun _ _ _ _ _ _ _ _ _ => p_r (by decide +kernel : p_at 88 43 = some (.iload 6)) rfl,
  fun _ _ _ _ _ _ _ _ _ _ => p_rcv (nl := 2) (by decide +kernel : p_at 88 45 = some (.invokevirtual 76)) (by decide +kernel : p_inv (p_own 88) 76 = some (1, 24, 2)) (by decide +kernel) (rfl : p_ob 4 = some (.inr (2, [some 11]))) rfl rfl (Nat.le_of_ble_eq_true rfl) (Nat.le_of_ble_eq_true rfl) (Nat.le_of_ble_eq_true rfl) rfl,
  fun _ _ _ _ _ _ _ _ _ _ => p_r (by decide +kernel : p_at 88 48 = some (.lstore 7)) rfl,
  fun _ _ _ _ _ _ _ _ _ => p_r (by decide +kernel : p_at 88 50 = some (.aload_n 0)) rfl,
  fun _ _ _ _ _ _ _ _ _ => p_rgf (f := some 4) (by decide +kernel : p_at 88 51 = some (.getfield 26)) (by decide +kernel : p_fld (p_own 88) 26 = some (4, 2)) (rfl : p_ob 0 = some (.inr (4, [some 1, some 2, some 4, some 3, some 5, some 6, some 7, some 19]))) rfl,
  fun _ _ _ _ _ _ _ _ _ => p_r (by decide +kernel : p_at 88 54 = some (.iload 6)) rfl,
  fun _ _ _ _ _ _ _ _ _ _ => p_rcv (nl := 2) (by decide +kernel : p_at 88 56 = some (.invokevirtual 179)) (by decide +kernel : p_inv (p_own 88) 179 = some (1, 26, 2)) (by decide +kernel) (rfl : p_ob 4 = some (.inr (2, [some 11]))) rfl rfl (Nat.le_of_ble_eq_true rfl) (Nat.le_of_ble_eq_true rfl) (Nat.le_of_ble_eq_true rfl) rfl,
  fun _ _ _ _ _ _ _ _ _ _ => p_r (by decide +kernel : p_at 88 59 = some (.iload_n 2)) rfl,
  fun _ _ _ _ _ _ _ _ _ _ _ => p_r (by decide +kernel : p_at 88 60 = some (.i2l)) rfl,
  fun _ _ _ _ _ _ _ _ _ _ _ => p_r (by decide +kernel : p_at 88 61 = some (.lcmp)) rfl,
  fun _ _ _ _ _ _ _ _ _ _ => p_rb1 (c := fun x => decide (x ≤ 0)) (off := 35) (by decide +kernel : p_at 88 62 = some (.ifCond .le 35)) (by decide +kernel) rfl rfl rfl,
  fun _ _ _ _ _ _ _ _ _ => p_r (by decide +kernel : p_at 88 65 = some (.aload_n 0)) rfl,
  fun _ _ _ _ _ _ _ _ _ => p_rgf (f := some 4) (by decide +kernel : p_at 88 66 = some (.getfield 26)) (by decide +kernel : p_fld (p_own 88) 26 = some (4, 2)) (rfl : p_ob 0 = some (.inr (4, [some 1, some 2, some 4, some 3, some 5, some 6, some 7, some 19]))) rfl,
  fun _ _ _ _ _ _ _ _ _ => p_r (by decide +kernel : p_at 88 69 = some (.iload 6)) rfl,
  fun _ _ _ _ _ _ _ _ _ _ => p_r (by decide +kernel : p_at 88 71 = some (.lload 7)) rfl,
  fun _ _ _ _ _ _ _ _ _ _ _ => p_r (by decide +kernel : p_at 88 73 = some (.lconst 0)) rfl,
  fun _ _ _ _ _ _ _ _ _ _ _ _ => p_r (by decide +kernel : p_at 88 74 = some (.lcmp)) rfl,
  fun _ _ _ _ _ _ _ _ _ _ _ => p_rb1 (c := fun x => decide (0 ≤ x)) (off := 11) (by decide +kernel : p_at 88 75 = some (.ifCond .ge 11)) (by decide +kernel) rfl rfl rfl,
  fun _ _ _ _ _ _ _ _ _ _ => p_r (by decide +kernel : p_at 88 78 = some (.lload 7)) rfl,
  fun _ _ _ _ _ _ _ _ _ _ _ => p_r (by decide +kernel : p_at 88 80 = some (.iload_n 3)) rfl,
  fun _ _ _ _ _ _ _ _ _ _ _ _ => p_r (by decide +kernel : p_at 88 81 = some (.i2l)) rfl,
  fun _ _ _ _ _ _ _ _ _ _ _ _ => p_r (by decide +kernel : p_at 88 82 = some (.ladd)) rfl,
  fun _ _ _ _ _ _ _ _ _ _ _ => p_rgo (by decide +kernel : p_at 88 83 = some (.goto 8)) (by decide +kernel),
  fun _ _ _ _ _ _ _ _ _ _ => p_r (by decide +kernel : p_at 88 86 = some (.lload 7)) rfl,
  fun _ _ _ _ _ _ _ _ _ _ _ => p_r (by decide +kernel : p_at 88 88 = some (.iload_n 3)) rfl,
  fun _ _ _ _ _ _ _ _ _ _ _ _ => p_r (by decide +kernel : p_at 88 89 = some (.i2l)) rfl,
  fun _ _ _ _ _ _ _ _ _ _ _ _ => p_r (by decide +kernel : p_at 88 90 = some (.lsub)) rfl,
  fun _ _ _ _ _ _ _ _ _ _ _ => p_rcv (nl := 4) (by decide +kernel : p_at 88 91 = some (.invokevirtual 80)) (by decide +kernel : p_inv (p_own 88) 80 = some (1, 25, 3)) (by decide +kernel) (rfl : p_ob 4 = some (.inr (2, [some 11]))) rfl rfl (Nat.le_of_ble_eq_true rfl) (Nat.le_of_ble_eq_true rfl) (Nat.le_of_ble_eq_true rfl) rfl,
  fun _ _ _ _ _ _ _ _ _ => p_rgo (by decide +kernel : p_at 88 94 = some (.goto 23)) (by decide +kernel),
  fun _ _ _ _ _ _ _ _ _ => p_r (by decide +kernel : p_at 88 97 = some (.lload 7)) rfl,
  fun _ _ _ _ _ _ _ _ _ _ => p_r (by decide +kernel : p_at 88 99 = some (.lconst 0)) rfl,
  fun _ _ _ _ _ _ _ _ _ _ _ => p_r (by decide +kernel : p_at 88 100 = some (.lcmp)) rfl,
  fun _ _ _ _ _ _ _ _ _ _ => p_rb1 (c := fun x => decide (x = 0)) (off := 16) (by decide +kernel : p_at 88 101 = some (.ifCond .eq 16)) (by decide +kernel) rfl rfl rfl,
  fun _ _ _ _ _ _ _ _ _ => p_r (by decide +kernel : p_at 88 104 = some (.aload_n 0)) rfl,
  fun _ _ _ _ _ _ _ _ _ => p_rgf (f := some 4) (by decide +kernel : p_at 88 105 = some (.getfield 26)) (by decide +kernel : p_fld (p_own 88) 26 = some (4, 2)) (rfl : p_ob 0 = some (.inr (4, [some 1, some 2, some 4, some 3, some 5, some 6, some 7, some 19]))) rfl,
  fun _ _ _ _ _ _ _ _ _ => p_r (by decide +kernel : p_at 88 108 = some (.iload 6)) rfl,
  fun _ _ _ _ _ _ _ _ _ _ => p_r (by decide +kernel : p_at 88 110 = some (.lconst 0)) rfl,
  fun _ _ _ _ _ _ _ _ _ _ _ => p_rcv (nl := 4) (by decide +kernel : p_at 88 111 = some (.invokevirtual 80)) (by decide +kernel : p_inv (p_own 88) 80 = some (1, 25, 3)) (by decide +kernel) (rfl : p_ob 4 = some (.inr (2, [some 11]))) rfl rfl (Nat.le_of_ble_eq_true rfl) (Nat.le_of_ble_eq_true rfl) (Nat.le_of_ble_eq_true rfl) rfl,
  fun _ _ _ _ _ _ _ _ _ => p_r (by decide +kernel : p_at 88 114 = some (.iinc 4 1)) rfl,
  fun _ _ _ _ _ _ _ _ _ => p_r (by decide +kernel : p_at 88 117 = some (.iinc 6 1)) rfl,
  fun _ _ _ _ _ _ _ _ _ => p_rgo (by decide +kernel : p_at 88 120 = some (.goto (-88))) (by decide +kernel),
  fun _ _ _ _ _ _ _ _ _ => p_r (by decide +kernel : p_at 88 123 = some (.iload 4)) rfl,
  fun _ _ _ _ _ _ _ _ _ _ => p_riret (by decide +kernel : p_at 88 125 = some (.ireturn)) (by decide +kernel)⟩
theorem H88_32 :
  (∀ (scr : pX) (w : pW) (x1 : Int32) (x2 : Int32) (x3 : Int32) (x4 : Int32) (x5 : Int32) (x6 : Int32) (z7 : Value), p_ev scr 88 32 [.ref 0, .int x1, .int x2, .int x3, .int x4, .int x5, .int x6, z7, p_U] [] w = p_ev scr 88 34 [.ref 0, .int x1, .int x2, .int x3, .int x4, .int x5, .int x6, z7, p_U] [.int x6] w) :=
  fun _ _ _ _ _ _ _ _ _ => p_r (by decide +kernel : p_at 88 32 = some (.iload 6)) rfl
-- 89: softRisk
theorem M89 :
  (∀ (scr : pX) (w : pW) (x1 : Int32) (x2 : Int32) (y3 : Int64), p_ev scr 89 0 [.ref 0, .int x1, .int x2, .long y3, p_U, p_U, p_U, p_U, p_U, p_U, p_U, p_U, p_U, p_U, p_U] [] w = p_ev scr 89 1 [.ref 0, .int x1, .int x2, .long y3, p_U, p_U, p_U, p_U, p_U, p_U, p_U, p_U, p_U, p_U, p_U] [.int x2] w) ∧
  (∀ (scr : pX) (w : pW) (x1 : Int32) (x2 : Int32) (y3 : Int64) (s0 : Int32), p_ev scr 89 1 [.ref 0, .int x1, .int x2, .long y3, p_U, p_U, p_U, p_U, p_U, p_U, p_U, p_U, p_U, p_U, p_U] [.int s0] w = p_ev scr 89 2 [.ref 0, .int x1, .int x2, .long y3, p_U, p_U, p_U, p_U, p_U, p_U, p_U, p_U, p_U, p_U, p_U] [.long s0.toInt64] w) ∧
  (∀ (scr : pX) (w : pW) (x1 : Int32) (x2 : Int32) (y3 : Int64) (t0 : Int64), p_ev scr 89 2 [.ref 0, .int x1, .int x2, .long y3, p_U, p_U, p_U, p_U, p_U, p_U, p_U, p_U, p_U, p_U, p_U] [.long t0] w = p_ev scr 89 3 [.ref 0, .int x1, .int x2, .long y3, p_U, p_U, p_U, p_U, p_U, p_U, p_U, p_U, p_U, p_U, p_U] [.int x2, .long t0] w) ∧
  (∀ (scr : pX) (w : pW) (x1 : Int32) (x2 : Int32) (y3 : Int64) (s0 : Int32) (t1 : Int64), p_ev scr 89 3 [.ref 0, .int x1, .int x2, .long y3, p_U, p_U, p_U, p_U, p_U, p_U, p_U, p_U, p_U, p_U, p_U] [.int s0, .long t1] w = p_ev scr 89 4 [.ref 0, .int x1, .int x2, .long y3, p_U, p_U, p_U, p_U, p_U, p_U, p_U, p_U, p_U, p_U, p_U] [.long s0.toInt64, .long t1] w) ∧
  (∀ (scr : pX) (w : pW) (x1 : Int32) (x2 : Int32) (y3 : Int64) (t0 : Int64) (t1 : Int64), p_ev scr 89 4 [.ref 0, .int x1, .int x2, .long y3, p_U, p_U, p_U, p_U, p_U, p_U, p_U, p_U, p_U, p_U, p_U] [.long t0, .long t1] w = p_ev scr 89 5 [.ref 0, .int x1, .int x2, .long y3, p_U, p_U, p_U, p_U, p_U, p_U, p_U, p_U, p_U, p_U, p_U] [.long (t1 * t0)] w) ∧
  (∀ (scr : pX) (w : pW) (x1 : Int32) (x2 : Int32) (y3 : Int64) (t0 : Int64), p_ev scr 89 5 [.ref 0, .int x1, .int x2, .long y3, p_U, p_U, p_U, p_U, p_U, p_U, p_U, p_U, p_U, p_U, p_U] [.long t0] w = p_ev scr 89 7 [.ref 0, .int x1, .int x2, .long y3, p_U, .long t0, p_U, p_U, p_U, p_U, p_U, p_U, p_U, p_U, p_U] [] w) ∧
  (∀ (scr : pX) (w : pW) (x1 : Int32) (x2 : Int32) (y3 : Int64) (y5 : Int64), p_ev scr 89 7 [.ref 0, .int x1, .int x2, .long y3, p_U, .long y5, p_U, p_U, p_U, p_U, p_U, p_U, p_U, p_U, p_U] [] w = p_ev scr 89 8 [.ref 0, .int x1, .int x2, .long y3, p_U, .long y5, p_U, p_U, p_U, p_U, p_U, p_U, p_U, p_U, p_U] [.ref 0] w) ∧
  (∀ (scr : pX) (w : pW) (x1 : Int32) (x2 : Int32) (y3 : Int64) (y5 : Int64), p_ev scr 89 8 [.ref 0, .int x1, .int x2, .long y3, p_U, .long y5, p_U, p_U, p_U, p_U, p_U, p_U, p_U, p_U, p_U] [.ref 0] w = p_ev scr 89 11 [.ref 0, .int x1, .int x2, .long y3, p_U, .long y5, p_U, p_U, p_U, p_U, p_U, p_U, p_U, p_U, p_U] [.ref 1] w) ∧
  (∀ (scr : pX) (w : pW) (x1 : Int32) (x2 : Int32) (y3 : Int64) (y5 : Int64), p_ev scr 89 11 [.ref 0, .int x1, .int x2, .long y3, p_U, .long y5, p_U, p_U, p_U, p_U, p_U, p_U, p_U, p_U, p_U] [.ref 1] w = p_ev scr 89 12 [.ref 0, .int x1, .int x2, .long y3, p_U, .long y5, p_U, p_U, p_U, p_U, p_U, p_U, p_U, p_U, p_U] [.int x1, .ref 1] w) ∧
  (∀ (scr : pX) (w : pW) (x1 : Int32) (x2 : Int32) (y3 : Int64) (y5 : Int64) (s0 : Int32), p_ev scr 89 12 [.ref 0, .int x1, .int x2, .long y3, p_U, .long y5, p_U, p_U, p_U, p_U, p_U, p_U, p_U, p_U, p_U] [.int s0, .ref 1] w = p_bnd scr 89 12 15 [.ref 0, .int x1, .int x2, .long y3, p_U, .long y5, p_U, p_U, p_U, p_U, p_U, p_U, p_U, p_U, p_U] [] (p_ev none 39 0 [.ref 1, .int s0] [] w)) ∧
  (∀ (scr : pX) (w : pW) (x1 : Int32) (x2 : Int32) (y3 : Int64) (y5 : Int64) (s0 : Int32), p_ev scr 89 15 [.ref 0, .int x1, .int x2, .long y3, p_U, .long y5, p_U, p_U, p_U, p_U, p_U, p_U, p_U, p_U, p_U] [.int s0] w = p_ev scr 89 16 [.ref 0, .int x1, .int x2, .long y3, p_U, .long y5, p_U, p_U, p_U, p_U, p_U, p_U, p_U, p_U, p_U] [.long s0.toInt64] w) ∧
  (∀ (scr : pX) (w : pW) (x1 : Int32) (x2 : Int32) (y3 : Int64) (y5 : Int64) (t0 : Int64), p_ev scr 89 16 [.ref 0, .int x1, .int x2, .long y3, p_U, .long y5, p_U, p_U, p_U, p_U, p_U, p_U, p_U, p_U, p_U] [.long t0] w = p_ev scr 89 18 [.ref 0, .int x1, .int x2, .long y3, p_U, .long y5, p_U, p_U, p_U, p_U, p_U, p_U, p_U, p_U, p_U] [.long y5, .long t0] w) ∧
  (∀ (scr : pX) (w : pW) (x1 : Int32) (x2 : Int32) (y3 : Int64) (y5 : Int64) (t0 : Int64) (t1 : Int64), p_ev scr 89 18 [.ref 0, .int x1, .int x2, .long y3, p_U, .long y5, p_U, p_U, p_U, p_U, p_U, p_U, p_U, p_U, p_U] [.long t0, .long t1] w = p_ev scr 89 19 [.ref 0, .int x1, .int x2, .long y3, p_U, .long y5, p_U, p_U, p_U, p_U, p_U, p_U, p_U, p_U, p_U] [.long (t1 * t0)] w) ∧
  (∀ (scr : pX) (w : pW) (x1 : Int32) (x2 : Int32) (y3 : Int64) (y5 : Int64) (t0 : Int64), p_ev scr 89 19 [.ref 0, .int x1, .int x2, .long y3, p_U, .long y5, p_U, p_U, p_U, p_U, p_U, p_U, p_U, p_U, p_U] [.long t0] w = p_ev scr 89 21 [.ref 0, .int x1, .int x2, .long y3, p_U, .long y5, p_U, .long t0, p_U, p_U, p_U, p_U, p_U, p_U, p_U] [] w) ∧
  (∀ (scr : pX) (w : pW) (x1 : Int32) (x2 : Int32) (y3 : Int64) (y5 : Int64) (y7 : Int64), p_ev scr 89 21 [.ref 0, .int x1, .int x2, .long y3, p_U, .long y5, p_U, .long y7, p_U, p_U, p_U, p_U, p_U, p_U, p_U] [] w = p_ev scr 89 22 [.ref 0, .int x1, .int x2, .long y3, p_U, .long y5, p_U, .long y7, p_U, p_U, p_U, p_U, p_U, p_U, p_U] [.ref 0] w) ∧
  (∀ (scr : pX) (w : pW) (x1 : Int32) (x2 : Int32) (y3 : Int64) (y5 : Int64) (y7 : Int64), p_ev scr 89 22 [.ref 0, .int x1, .int x2, .long y3, p_U, .long y5, p_U, .long y7, p_U, p_U, p_U, p_U, p_U, p_U, p_U] [.ref 0] w = p_ev scr 89 25 [.ref 0, .int x1, .int x2, .long y3, p_U, .long y5, p_U, .long y7, p_U, p_U, p_U, p_U, p_U, p_U, p_U] [.ref 1] w) ∧
  (∀ (scr : pX) (w : pW) (x1 : Int32) (x2 : Int32) (y3 : Int64) (y5 : Int64) (y7 : Int64), p_ev scr 89 25 [.ref 0, .int x1, .int x2, .long y3, p_U, .long y5, p_U, .long y7, p_U, p_U, p_U, p_U, p_U, p_U, p_U] [.ref 1] w = p_ev scr 89 26 [.ref 0, .int x1, .int x2, .long y3, p_U, .long y5, p_U, .long y7, p_U, p_U, p_U, p_U, p_U, p_U, p_U] [.int x1, .ref 1] w) ∧
  (∀ (scr : pX) (w : pW) (x1 : Int32) (x2 : Int32) (y3 : Int64) (y5 : Int64) (y7 : Int64) (s0 : Int32), p_ev scr 89 26 [.ref 0, .int x1, .int x2, .long y3, p_U, .long y5, p_U, .long y7, p_U, p_U, p_U, p_U, p_U, p_U, p_U] [.int s0, .ref 1] w = p_bnd scr 89 26 29 [.ref 0, .int x1, .int x2, .long y3, p_U, .long y5, p_U, .long y7, p_U, p_U, p_U, p_U, p_U, p_U, p_U] [] (p_ev none 40 0 [.ref 1, .int s0] [] w)) ∧
  (∀ (scr : pX) (w : pW) (x1 : Int32) (x2 : Int32) (y3 : Int64) (y5 : Int64) (y7 : Int64) (s0 : Int32), p_ev scr 89 29 [.ref 0, .int x1, .int x2, .long y3, p_U, .long y5, p_U, .long y7, p_U, p_U, p_U, p_U, p_U, p_U, p_U] [.int s0] w = p_ev scr 89 30 [.ref 0, .int x1, .int x2, .long y3, p_U, .long y5, p_U, .long y7, p_U, p_U, p_U, p_U, p_U, p_U, p_U] [.ref 0, .int s0] w) ∧
  (∀ (scr : pX) (w : pW) (x1 : Int32) (x2 : Int32) (y3 : Int64) (y5 : Int64) (y7 : Int64) (s1 : Int32), p_ev scr 89 30 [.ref 0, .int x1, .int x2, .long y3, p_U, .long y5, p_U, .long y7, p_U, p_U, p_U, p_U, p_U, p_U, p_U] [.ref 0, .int s1] w = p_ev scr 89 33 [.ref 0, .int x1, .int x2, .long y3, p_U, .long y5, p_U, .long y7, p_U, p_U, p_U, p_U, p_U, p_U, p_U] [.ref 1, .int s1] w) ∧
  (∀ (scr : pX) (w : pW) (x1 : Int32) (x2 : Int32) (y3 : Int64) (y5 : Int64) (y7 : Int64) (s1 : Int32), p_ev scr 89 33 [.ref 0, .int x1, .int x2, .long y3, p_U, .long y5, p_U, .long y7, p_U, p_U, p_U, p_U, p_U, p_U, p_U] [.ref 1, .int s1] w = p_ev scr 89 34 [.ref 0, .int x1, .int x2, .long y3, p_U, .long y5, p_U, .long y7, p_U, p_U, p_U, p_U, p_U, p_U, p_U] [.int x1, .ref 1, .int s1] w) ∧
  (∀ (scr : pX) (w : pW) (x1 : Int32) (x2 : Int32) (y3 : Int64) (y5 : Int64) (y7 : Int64) (s0 : Int32) (s2 : Int32), p_ev scr 89 34 [.ref 0, .int x1, .int x2, .long y3, p_U, .long y5, p_U, .long y7, p_U, p_U, p_U, p_U, p_U, p_U, p_U] [.int s0, .ref 1, .int s2] w = p_bnd scr 89 34 37 [.ref 0, .int x1, .int x2, .long y3, p_U, .long y5, p_U, .long y7, p_U, p_U, p_U, p_U, p_U, p_U, p_U] [.int s2] (p_ev none 39 0 [.ref 1, .int s0] [] w)) ∧
  (∀ (scr : pX) (w : pW) (x1 : Int32) (x2 : Int32) (y3 : Int64) (y5 : Int64) (y7 : Int64) (s0 : Int32) (s1 : Int32), p_ev scr 89 37 [.ref 0, .int x1, .int x2, .long y3, p_U, .long y5, p_U, .long y7, p_U, p_U, p_U, p_U, p_U, p_U, p_U] [.int s0, .int s1] w = p_ev scr 89 38 [.ref 0, .int x1, .int x2, .long y3, p_U, .long y5, p_U, .long y7, p_U, p_U, p_U, p_U, p_U, p_U, p_U] [.int (s1 + s0)] w) ∧
  (∀ (scr : pX) (w : pW) (x1 : Int32) (x2 : Int32) (y3 : Int64) (y5 : Int64) (y7 : Int64) (s0 : Int32), p_ev scr 89 38 [.ref 0, .int x1, .int x2, .long y3, p_U, .long y5, p_U, .long y7, p_U, p_U, p_U, p_U, p_U, p_U, p_U] [.int s0] w = p_ev scr 89 40 [.ref 0, .int x1, .int x2, .long y3, p_U, .long y5, p_U, .long y7, p_U, .int s0, p_U, p_U, p_U, p_U, p_U] [] w) ∧
  (∀ (scr : pX) (w : pW) (x1 : Int32) (x2 : Int32) (y3 : Int64) (y5 : Int64) (y7 : Int64) (x9 : Int32), p_ev scr 89 40 [.ref 0, .int x1, .int x2, .long y3, p_U, .long y5, p_U, .long y7, p_U, .int x9, p_U, p_U, p_U, p_U, p_U] [] w = p_ev scr 89 41 [.ref 0, .int x1, .int x2, .long y3, p_U, .long y5, p_U, .long y7, p_U, .int x9, p_U, p_U, p_U, p_U, p_U] [.ref 0] w) ∧
  (∀ (scr : pX) (w : pW) (x1 : Int32) (x2 : Int32) (y3 : Int64) (y5 : Int64) (y7 : Int64) (x9 : Int32), p_ev scr 89 41 [.ref 0, .int x1, .int x2, .long y3, p_U, .long y5, p_U, .long y7, p_U, .int x9, p_U, p_U, p_U, p_U, p_U] [.ref 0] w = p_ev scr 89 44 [.ref 0, .int x1, .int x2, .long y3, p_U, .long y5, p_U, .long y7, p_U, .int x9, p_U, p_U, p_U, p_U, p_U] [.ref 1] w) ∧
  (∀ (scr : pX) (w : pW) (x1 : Int32) (x2 : Int32) (y3 : Int64) (y5 : Int64) (y7 : Int64) (x9 : Int32), p_ev scr 89 44 [.ref 0, .int x1, .int x2, .long y3, p_U, .long y5, p_U, .long y7, p_U, .int x9, p_U, p_U, p_U, p_U, p_U] [.ref 1] w = p_ev scr 89 45 [.ref 0, .int x1, .int x2, .long y3, p_U, .long y5, p_U, .long y7, p_U, .int x9, p_U, p_U, p_U, p_U, p_U] [.int x1, .ref 1] w) ∧
  (∀ (scr : pX) (w : pW) (x1 : Int32) (x2 : Int32) (y3 : Int64) (y5 : Int64) (y7 : Int64) (x9 : Int32) (s0 : Int32), p_ev scr 89 45 [.ref 0, .int x1, .int x2, .long y3, p_U, .long y5, p_U, .long y7, p_U, .int x9, p_U, p_U, p_U, p_U, p_U] [.int s0, .ref 1] w = p_bnd scr 89 45 48 [.ref 0, .int x1, .int x2, .long y3, p_U, .long y5, p_U, .long y7, p_U, .int x9, p_U, p_U, p_U, p_U, p_U] [] (p_ev none 40 0 [.ref 1, .int s0] [] w)) ∧
  (∀ (scr : pX) (w : pW) (x1 : Int32) (x2 : Int32) (y3 : Int64) (y5 : Int64) (y7 : Int64) (x9 : Int32) (s0 : Int32), p_ev scr 89 48 [.ref 0, .int x1, .int x2, .long y3, p_U, .long y5, p_U, .long y7, p_U, .int x9, p_U, p_U, p_U, p_U, p_U] [.int s0] w = p_ev scr 89 50 [.ref 0, .int x1, .int x2, .long y3, p_U, .long y5, p_U, .long y7, p_U, .int x9, .int s0, p_U, p_U, p_U, p_U] [] w) ∧
  (∀ (scr : pX) (w : pW) (x1 : Int32) (x2 : Int32) (y3 : Int64) (y5 : Int64) (y7 : Int64) (x9 : Int32) (x10 : Int32) (z11 : Value) (z13 : Value) (s0 : Int32), p_ev scr 89 52 [.ref 0, .int x1, .int x2, .long y3, p_U, .long y5, p_U, .long y7, p_U, .int x9, .int x10, z11, p_U, z13, p_U] [.int s0] w = p_ev scr 89 54 [.ref 0, .int x1, .int x2, .long y3, p_U, .long y5, p_U, .long y7, p_U, .int x9, .int x10, z11, p_U, z13, p_U] [.int x9, .int s0] w) ∧
  (∀ (scr : pX) (w : pW) (x1 : Int32) (x2 : Int32) (y3 : Int64) (y5 : Int64) (y7 : Int64) (x9 : Int32) (x10 : Int32) (z11 : Value) (z13 : Value) (s0 : Int32) (s1 : Int32), p_ev scr 89 54 [.ref 0, .int x1, .int x2, .long y3, p_U, .long y5, p_U, .long y7, p_U, .int x9, .int x10, z11, p_U, z13, p_U] [.int s0, .int s1] w = if s0 ≤ s1 then p_ev scr 89 110 [.ref 0, .int x1, .int x2, .long y3, p_U, .long y5, p_U, .long y7, p_U, .int x9, .int x10, z11, p_U, z13, p_U] [] w else p_ev scr 89 57 [.ref 0, .int x1, .int x2, .long y3, p_U, .long y5, p_U, .long y7, p_U, .int x9, .int x10, z11, p_U, z13, p_U] [] w) ∧
  (∀ (scr : pX) (w : pW) (x1 : Int32) (x2 : Int32) (y3 : Int64) (y5 : Int64) (y7 : Int64) (x9 : Int32) (x10 : Int32) (z11 : Value) (z13 : Value), p_ev scr 89 57 [.ref 0, .int x1, .int x2, .long y3, p_U, .long y5, p_U, .long y7, p_U, .int x9, .int x10, z11, p_U, z13, p_U] [] w = p_ev scr 89 58 [.ref 0, .int x1, .int x2, .long y3, p_U, .long y5, p_U, .long y7, p_U, .int x9, .int x10, z11, p_U, z13, p_U] [.ref 0] w) ∧
  (∀ (scr : pX) (w : pW) (x1 : Int32) (x2 : Int32) (y3 : Int64) (y5 : Int64) (y7 : Int64) (x9 : Int32) (x10 : Int32) (z11 : Value) (z13 : Value), p_ev scr 89 58 [.ref 0, .int x1, .int x2, .long y3, p_U, .long y5, p_U, .long y7, p_U, .int x9, .int x10, z11, p_U, z13, p_U] [.ref 0] w = p_ev scr 89 61 [.ref 0, .int x1, .int x2, .long y3, p_U, .long y5, p_U, .long y7, p_U, .int x9, .int x10, z11, p_U, z13, p_U] [.ref 4] w) ∧
  (∀ (scr : pX) (w : pW) (x1 : Int32) (x2 : Int32) (y3 : Int64) (y5 : Int64) (y7 : Int64) (x9 : Int32) (x10 : Int32) (z11 : Value) (z13 : Value), p_ev scr 89 61 [.ref 0, .int x1, .int x2, .long y3, p_U, .long y5, p_U, .long y7, p_U, .int x9, .int x10, z11, p_U, z13, p_U] [.ref 4] w = p_ev scr 89 63 [.ref 0, .int x1, .int x2, .long y3, p_U, .long y5, p_U, .long y7, p_U, .int x9, .int x10, z11, p_U, z13, p_U] [.int x10, .ref 4] w) ∧
  (∀ (scr : pX) (w : pW) (x1 : Int32) (x2 : Int32) (y3 : Int64) (y5 : Int64) (y7 : Int64) (x9 : Int32) (x10 : Int32) (z11 : Value) (z13 : Value) (s0 : Int32), p_ev scr 89 63 [.ref 0, .int x1, .int x2, .long y3, p_U, .long y5, p_U, .long y7, p_U, .int x9, .int x10, z11, p_U, z13, p_U] [.int s0, .ref 4] w = p_bnd scr 89 63 66 [.ref 0, .int x1, .int x2, .long y3, p_U, .long y5, p_U, .long y7, p_U, .int x9, .int x10, z11, p_U, z13, p_U] [] (p_ev none 26 0 [.ref 4, .int s0] [] w)) ∧
  (∀ (scr : pX) (w : pW) (x1 : Int32) (x2 : Int32) (y3 : Int64) (y5 : Int64) (y7 : Int64) (x9 : Int32) (x10 : Int32) (z11 : Value) (z13 : Value) (t0 : Int64), p_ev scr 89 66 [.ref 0, .int x1, .int x2, .long y3, p_U, .long y5, p_U, .long y7, p_U, .int x9, .int x10, z11, p_U, z13, p_U] [.long t0] w = p_ev scr 89 68 [.ref 0, .int x1, .int x2, .long y3, p_U, .long y5, p_U, .long y7, p_U, .int x9, .int x10, .long t0, p_U, z13, p_U] [] w) ∧
  (∀ (scr : pX) (w : pW) (x1 : Int32) (x2 : Int32) (y3 : Int64) (y5 : Int64) (y7 : Int64) (x9 : Int32) (x10 : Int32) (y11 : Int64) (z13 : Value), p_ev scr 89 68 [.ref 0, .int x1, .int x2, .long y3, p_U, .long y5, p_U, .long y7, p_U, .int x9, .int x10, .long y11, p_U, z13, p_U] [] w = p_ev scr 89 70 [.ref 0, .int x1, .int x2, .long y3, p_U, .long y5, p_U, .long y7, p_U, .int x9, .int x10, .long y11, p_U, z13, p_U] [.long y11] w) ∧
  (∀ (scr : pX) (w : pW) (x1 : Int32) (x2 : Int32) (y3 : Int64) (y5 : Int64) (y7 : Int64) (x9 : Int32) (x10 : Int32) (y11 : Int64) (z13 : Value) (t0 : Int64), p_ev scr 89 70 [.ref 0, .int x1, .int x2, .long y3, p_U, .long y5, p_U, .long y7, p_U, .int x9, .int x10, .long y11, p_U, z13, p_U] [.long t0] w = p_ev scr 89 71 [.ref 0, .int x1, .int x2, .long y3, p_U, .long y5, p_U, .long y7, p_U, .int x9, .int x10, .long y11, p_U, z13, p_U] [.long y3, .long t0] w) ∧
  (∀ (scr : pX) (w : pW) (x1 : Int32) (x2 : Int32) (y3 : Int64) (y5 : Int64) (y7 : Int64) (x9 : Int32) (x10 : Int32) (y11 : Int64) (z13 : Value) (t0 : Int64) (t1 : Int64), p_ev scr 89 71 [.ref 0, .int x1, .int x2, .long y3, p_U, .long y5, p_U, .long y7, p_U, .int x9, .int x10, .long y11, p_U, z13, p_U] [.long t0, .long t1] w = p_ev scr 89 74 [.ref 0, .int x1, .int x2, .long y3, p_U, .long y5, p_U, .long y7, p_U, .int x9, .int x10, .long y11, p_U, z13, p_U] [.long (p_min t1 t0)] w) ∧
  (∀ (scr : pX) (w : pW) (x1 : Int32) (x2 : Int32) (y3 : Int64) (y5 : Int64) (y7 : Int64) (x9 : Int32) (x10 : Int32) (y11 : Int64) (z13 : Value) (t0 : Int64), p_ev scr 89 74 [.ref 0, .int x1, .int x2, .long y3, p_U, .long y5, p_U, .long y7, p_U, .int x9, .int x10, .long y11, p_U, z13, p_U] [.long t0] w = p_ev scr 89 76 [.ref 0, .int x1, .int x2, .long y3, p_U, .long y5, p_U, .long y7, p_U, .int x9, .int x10, .long y11, p_U, .long t0, p_U] [] w) ∧
  (∀ (scr : pX) (w : pW) (x1 : Int32) (x2 : Int32) (y3 : Int64) (y5 : Int64) (y7 : Int64) (x9 : Int32) (x10 : Int32) (y11 : Int64) (y13 : Int64), p_ev scr 89 76 [.ref 0, .int x1, .int x2, .long y3, p_U, .long y5, p_U, .long y7, p_U, .int x9, .int x10, .long y11, p_U, .long y13, p_U] [] w = p_ev scr 89 78 [.ref 0, .int x1, .int x2, .long y3, p_U, .long y5, p_U, .long y7, p_U, .int x9, .int x10, .long y11, p_U, .long y13, p_U] [.long y7] w) ∧
  (∀ (scr : pX) (w : pW) (x1 : Int32) (x2 : Int32) (y3 : Int64) (y5 : Int64) (y7 : Int64) (x9 : Int32) (x10 : Int32) (y11 : Int64) (y13 : Int64) (t0 : Int64), p_ev scr 89 78 [.ref 0, .int x1, .int x2, .long y3, p_U, .long y5, p_U, .long y7, p_U, .int x9, .int x10, .long y11, p_U, .long y13, p_U] [.long t0] w = p_ev scr 89 80 [.ref 0, .int x1, .int x2, .long y3, p_U, .long y5, p_U, .long y7, p_U, .int x9, .int x10, .long y11, p_U, .long y13, p_U] [.long y13, .long t0] w) ∧
  (∀ (scr : pX) (w : pW) (x1 : Int32) (x2 : Int32) (y3 : Int64) (y5 : Int64) (y7 : Int64) (x9 : Int32) (x10 : Int32) (y11 : Int64) (y13 : Int64) (t0 : Int64) (t1 : Int64), p_ev scr 89 80 [.ref 0, .int x1, .int x2, .long y3, p_U, .long y5, p_U, .long y7, p_U, .int x9, .int x10, .long y11, p_U, .long y13, p_U] [.long t0, .long t1] w = p_ev scr 89 82 [.ref 0, .int x1, .int x2, .long y3, p_U, .long y5, p_U, .long y7, p_U, .int x9, .int x10, .long y11, p_U, .long y13, p_U] [.long y13, .long t0, .long t1] w) ∧
  (∀ (scr : pX) (w : pW) (x1 : Int32) (x2 : Int32) (y3 : Int64) (y5 : Int64) (y7 : Int64) (x9 : Int32) (x10 : Int32) (y11 : Int64) (y13 : Int64) (t0 : Int64) (t1 : Int64) (t2 : Int64), p_ev scr 89 82 [.ref 0, .int x1, .int x2, .long y3, p_U, .long y5, p_U, .long y7, p_U, .int x9, .int x10, .long y11, p_U, .long y13, p_U] [.long t0, .long t1, .long t2] w = p_ev scr 89 83 [.ref 0, .int x1, .int x2, .long y3, p_U, .long y5, p_U, .long y7, p_U, .int x9, .int x10, .long y11, p_U, .long y13, p_U] [.long (t1 * t0), .long t2] w) ∧
  (∀ (scr : pX) (w : pW) (x1 : Int32) (x2 : Int32) (y3 : Int64) (y5 : Int64) (y7 : Int64) (x9 : Int32) (x10 : Int32) (y11 : Int64) (y13 : Int64) (t0 : Int64) (t1 : Int64), p_ev scr 89 83 [.ref 0, .int x1, .int x2, .long y3, p_U, .long y5, p_U, .long y7, p_U, .int x9, .int x10, .long y11, p_U, .long y13, p_U] [.long t0, .long t1] w = p_ev scr 89 84 [.ref 0, .int x1, .int x2, .long y3, p_U, .long y5, p_U, .long y7, p_U, .int x9, .int x10, .long y11, p_U, .long y13, p_U] [.long (t1 + t0)] w) ∧
  (∀ (scr : pX) (w : pW) (x1 : Int32) (x2 : Int32) (y3 : Int64) (y5 : Int64) (y7 : Int64) (x9 : Int32) (x10 : Int32) (y11 : Int64) (y13 : Int64) (t0 : Int64), p_ev scr 89 84 [.ref 0, .int x1, .int x2, .long y3, p_U, .long y5, p_U, .long y7, p_U, .int x9, .int x10, .long y11, p_U, .long y13, p_U] [.long t0] w = p_ev scr 89 86 [.ref 0, .int x1, .int x2, .long y3, p_U, .long y5, p_U, .long t0, p_U, .int x9, .int x10, .long y11, p_U, .long y13, p_U] [] w) ∧
  (∀ (scr : pX) (w : pW) (x1 : Int32) (x2 : Int32) (y3 : Int64) (y5 : Int64) (y7 : Int64) (x9 : Int32) (x10 : Int32) (y11 : Int64) (y13 : Int64), p_ev scr 89 86 [.ref 0, .int x1, .int x2, .long y3, p_U, .long y5, p_U, .long y7, p_U, .int x9, .int x10, .long y11, p_U, .long y13, p_U] [] w = p_ev scr 89 88 [.ref 0, .int x1, .int x2, .long y3, p_U, .long y5, p_U, .long y7, p_U, .int x9, .int x10, .long y11, p_U, .long y13, p_U] [.long y11] w) ∧
  (∀ (scr : pX) (w : pW) (x1 : Int32) (x2 : Int32) (y3 : Int64) (y5 : Int64) (y7 : Int64) (x9 : Int32) (x10 : Int32) (y11 : Int64) (y13 : Int64) (t0 : Int64), p_ev scr 89 88 [.ref 0, .int x1, .int x2, .long y3, p_U, .long y5, p_U, .long y7, p_U, .int x9, .int x10, .long y11, p_U, .long y13, p_U] [.long t0] w = p_ev scr 89 89 [.ref 0, .int x1, .int x2, .long y3, p_U, .long y5, p_U, .long y7, p_U, .int x9, .int x10, .long y11, p_U, .long y13, p_U] [.long y3, .long t0] w) ∧
  (∀ (scr : pX) (w : pW) (x1 : Int32) (x2 : Int32) (y3 : Int64) (y5 : Int64) (y7 : Int64) (x9 : Int32) (x10 : Int32) (y11 : Int64) (y13 : Int64) (t0 : Int64) (t1 : Int64), p_ev scr 89 89 [.ref 0, .int x1, .int x2, .long y3, p_U, .long y5, p_U, .long y7, p_U, .int x9, .int x10, .long y11, p_U, .long y13, p_U] [.long t0, .long t1] w = p_ev scr 89 90 [.ref 0, .int x1, .int x2, .long y3, p_U, .long y5, p_U, .long y7, p_U, .int x9, .int x10, .long y11, p_U, .long y13, p_U] [.int (lg_cmp t1 t0)] w) ∧
  (∀ (scr : pX) (w : pW) (x1 : Int32) (x2 : Int32) (y3 : Int64) (y5 : Int64) (y7 : Int64) (x9 : Int32) (x10 : Int32) (y11 : Int64) (y13 : Int64) (s0 : Int32), p_ev scr 89 90 [.ref 0, .int x1, .int x2, .long y3, p_U, .long y5, p_U, .long y7, p_U, .int x9, .int x10, .long y11, p_U, .long y13, p_U] [.int s0] w = if nI 0 < s0 then p_ev scr 89 104 [.ref 0, .int x1, .int x2, .long y3, p_U, .long y5, p_U, .long y7, p_U, .int x9, .int x10, .long y11, p_U, .long y13, p_U] [] w else p_ev scr 89 93 [.ref 0, .int x1, .int x2, .long y3, p_U, .long y5, p_U, .long y7, p_U, .int x9, .int x10, .long y11, p_U, .long y13, p_U] [] w) ∧
  (∀ (scr : pX) (w : pW) (x1 : Int32) (x2 : Int32) (y3 : Int64) (y5 : Int64) (y7 : Int64) (x9 : Int32) (x10 : Int32) (y11 : Int64) (y13 : Int64), p_ev scr 89 93 [.ref 0, .int x1, .int x2, .long y3, p_U, .long y5, p_U, .long y7, p_U, .int x9, .int x10, .long y11, p_U, .long y13, p_U] [] w = p_ev scr 89 95 [.ref 0, .int x1, .int x2, .long y3, p_U, .long y5, p_U, .long y7, p_U, .int x9, .int x10, .long y11, p_U, .long y13, p_U] [.long y7] w) ∧
  (∀ (scr : pX) (w : pW) (x1 : Int32) (x2 : Int32) (y3 : Int64) (y5 : Int64) (y7 : Int64) (x9 : Int32) (x10 : Int32) (y11 : Int64) (y13 : Int64) (t0 : Int64), p_ev scr 89 95 [.ref 0, .int x1, .int x2, .long y3, p_U, .long y5, p_U, .long y7, p_U, .int x9, .int x10, .long y11, p_U, .long y13, p_U] [.long t0] w = p_ev scr 89 98 [.ref 0, .int x1, .int x2, .long y3, p_U, .long y5, p_U, .long y7, p_U, .int x9, .int x10, .long y11, p_U, .long y13, p_U] [.long (lN 2), .long t0] w) ∧
  (∀ (scr : pX) (w : pW) (x1 : Int32) (x2 : Int32) (y3 : Int64) (y5 : Int64) (y7 : Int64) (x9 : Int32) (x10 : Int32) (y11 : Int64) (y13 : Int64) (t0 : Int64) (t1 : Int64), p_ev scr 89 98 [.ref 0, .int x1, .int x2, .long y3, p_U, .long y5, p_U, .long y7, p_U, .int x9, .int x10, .long y11, p_U, .long y13, p_U] [.long t0, .long t1] w = p_ev scr 89 100 [.ref 0, .int x1, .int x2, .long y3, p_U, .long y5, p_U, .long y7, p_U, .int x9, .int x10, .long y11, p_U, .long y13, p_U] [.long y5, .long t0, .long t1] w) ∧
  (∀ (scr : pX) (w : pW) (x1 : Int32) (x2 : Int32) (y3 : Int64) (y5 : Int64) (y7 : Int64) (x9 : Int32) (x10 : Int32) (y11 : Int64) (y13 : Int64) (t0 : Int64) (t1 : Int64) (t2 : Int64), p_ev scr 89 100 [.ref 0, .int x1, .int x2, .long y3, p_U, .long y5, p_U, .long y7, p_U, .int x9, .int x10, .long y11, p_U, .long y13, p_U] [.long t0, .long t1, .long t2] w = p_ev scr 89 101 [.ref 0, .int x1, .int x2, .long y3, p_U, .long y5, p_U, .long y7, p_U, .int x9, .int x10, .long y11, p_U, .long y13, p_U] [.long (t1 * t0), .long t2] w) ∧
  (∀ (scr : pX) (w : pW) (x1 : Int32) (x2 : Int32) (y3 : Int64) (y5 : Int64) (y7 : Int64) (x9 : Int32) (x10 : Int32) (y11 : Int64) (y13 : Int64) (t0 : Int64) (t1 : Int64), p_ev scr 89 101 [.ref 0, .int x1, .int x2, .long y3, p_U, .long y5, p_U, .long y7, p_U, .int x9, .int x10, .long y11, p_U, .long y13, p_U] [.long t0, .long t1] w = p_ev scr 89 102 [.ref 0, .int x1, .int x2, .long y3, p_U, .long y5, p_U, .long y7, p_U, .int x9, .int x10, .long y11, p_U, .long y13, p_U] [.long (t1 - t0)] w) ∧
  (∀ (scr : pX) (w : pW) (x1 : Int32) (x2 : Int32) (y3 : Int64) (y5 : Int64) (y7 : Int64) (x9 : Int32) (x10 : Int32) (y11 : Int64) (y13 : Int64) (t0 : Int64), p_ev scr 89 102 [.ref 0, .int x1, .int x2, .long y3, p_U, .long y5, p_U, .long y7, p_U, .int x9, .int x10, .long y11, p_U, .long y13, p_U] [.long t0] w = p_ev scr 89 104 [.ref 0, .int x1, .int x2, .long y3, p_U, .long y5, p_U, .long t0, p_U, .int x9, .int x10, .long y11, p_U, .long y13, p_U] [] w) ∧
  (∀ (scr : pX) (w : pW) (x1 : Int32) (x2 : Int32) (y3 : Int64) (y5 : Int64) (y7 : Int64) (x9 : Int32) (x10 : Int32) (y11 : Int64) (y13 : Int64), p_ev scr 89 104 [.ref 0, .int x1, .int x2, .long y3, p_U, .long y5, p_U, .long y7, p_U, .int x9, .int x10, .long y11, p_U, .long y13, p_U] [] w = p_ev scr 89 107 [.ref 0, .int x1, .int x2, .long y3, p_U, .long y5, p_U, .long y7, p_U, .int x9, .int (x10 + (nI 1)), .long y11, p_U, .long y13, p_U] [] w) ∧
  (∀ (scr : pX) (w : pW) (x1 : Int32) (x2 : Int32) (y3 : Int64) (y5 : Int64) (y7 : Int64) (x9 : Int32) (x10 : Int32) (y11 : Int64) (y13 : Int64), p_ev scr 89 107 [.ref 0, .int x1, .int x2, .long y3, p_U, .long y5, p_U, .long y7, p_U, .int x9, .int x10, .long y11, p_U, .long y13, p_U] [] w = p_ev scr 89 50 [.ref 0, .int x1, .int x2, .long y3, p_U, .long y5, p_U, .long y7, p_U, .int x9, .int x10, .long y11, p_U, .long y13, p_U] [] w) ∧
  (∀ (scr : pX) (w : pW) (x1 : Int32) (x2 : Int32) (y3 : Int64) (y5 : Int64) (y7 : Int64) (x9 : Int32) (x10 : Int32) (z11 : Value) (z13 : Value), p_ev scr 89 110 [.ref 0, .int x1, .int x2, .long y3, p_U, .long y5, p_U, .long y7, p_U, .int x9, .int x10, z11, p_U, z13, p_U] [] w = p_ev scr 89 112 [.ref 0, .int x1, .int x2, .long y3, p_U, .long y5, p_U, .long y7, p_U, .int x9, .int x10, z11, p_U, z13, p_U] [.long y7] w) ∧
  (∀ (scr : pX) (w : pW) (x1 : Int32) (x2 : Int32) (y3 : Int64) (y5 : Int64) (y7 : Int64) (x9 : Int32) (x10 : Int32) (z11 : Value) (z13 : Value) (t0 : Int64), p_ev scr 89 112 [.ref 0, .int x1, .int x2, .long y3, p_U, .long y5, p_U, .long y7, p_U, .int x9, .int x10, z11, p_U, z13, p_U] [.long t0] w = some (.inl (some (.long t0)), w, 0)) :=
  ⟨fun _ _ _ _ _ => p_r (by decide +kernel : p_at 89 0 = some (.iload_n 2)) rfl,
  fun _ _ _ _ _ _ => p_r (by decide +kernel : p_at 89 1 = some (.i2l)) rfl,
  fun _ _ _ _ _ _ => p_r (by decide +kernel : p_at 89 2 = some (.iload_n 2)) rfl,
  fun _ _ _ _ _ _ _ => p_r (by decide +kernel : p_at 89 3 = some (.i2l)) rfl,
  fun _ _ _ _ _ _ _ => p_r (by decide +kernel : p_at 89 4 = some (.lmul)) rfl,
  fun _ _ _ _ _ _ => p_r (by decide +kernel : p_at 89 5 = some (.lstore 5)) rfl,
  fun _ _ _ _ _ _ => p_r (by decide +kernel : p_at 89 7 = some (.aload_n 0)) rfl,
  fun _ _ _ _ _ _ => p_rgf (f := some 1) (by decide +kernel : p_at 89 8 = some (.getfield 10)) (by decide +kernel : p_fld (p_own 89) 10 = some (4, 0)) (rfl : p_ob 0 = some (.inr (4, [some 1, some 2, some 4, some 3, some 5, some 6, some 7, some 19]))) rfl,
  fun _ _ _ _ _ _ => p_r (by decide +kernel : p_at 89 11 = some (.iload_n 1)) rfl,
  fun _ _ _ _ _ _ _ => p_rcv (nl := 2) (by decide +kernel : p_at 89 12 = some (.invokevirtual 110)) (by decide +kernel : p_inv (p_own 89) 110 = some (1, 39, 2)) (by decide +kernel) (rfl : p_ob 1 = some (.inr (3, [some 18, none]))) rfl rfl (Nat.le_of_ble_eq_true rfl) (Nat.le_of_ble_eq_true rfl) (Nat.le_of_ble_eq_true rfl) rfl,
  fun _ _ _ _ _ _ _ => p_r (by decide +kernel : p_at 89 15 = some (.i2l)) rfl,
  fun _ _ _ _ _ _ _ => p_r (by decide +kernel : p_at 89 16 = some (.lload 5)) rfl,
  fun _ _ _ _ _ _ _ _ => p_r (by decide +kernel : p_at 89 18 = some (.lmul)) rfl,
  fun _ _ _ _ _ _ _ => p_r (by decide +kernel : p_at 89 19 = some (.lstore 7)) rfl,
  fun _ _ _ _ _ _ _ => p_r (by decide +kernel : p_at 89 21 = some (.aload_n 0)) rfl,
  fun _ _ _ _ _ _ _ => p_rgf (f := some 1) (by decide +kernel : p_at 89 22 = some (.getfield 10)) (by decide +kernel : p_fld (p_own 89) 10 = some (4, 0)) (rfl : p_ob 0 = some (.inr (4, [some 1, some 2, some 4, some 3, some 5, some 6, some 7, some 19]))) rfl,
  fun _ _ _ _ _ _ _ => p_r (by decide +kernel : p_at 89 25 = some (.iload_n 1)) rfl,
  fun _ _ _ _ _ _ _ _ => p_rcv (nl := 2) (by decide +kernel : p_at 89 26 = some (.invokevirtual 154)) (by decide +kernel : p_inv (p_own 89) 154 = some (1, 40, 2)) (by decide +kernel) (rfl : p_ob 1 = some (.inr (3, [some 18, none]))) rfl rfl (Nat.le_of_ble_eq_true rfl) (Nat.le_of_ble_eq_true rfl) (Nat.le_of_ble_eq_true rfl) rfl,
  fun _ _ _ _ _ _ _ _ => p_r (by decide +kernel : p_at 89 29 = some (.aload_n 0)) rfl,
  fun _ _ _ _ _ _ _ _ => p_rgf (f := some 1) (by decide +kernel : p_at 89 30 = some (.getfield 10)) (by decide +kernel : p_fld (p_own 89) 10 = some (4, 0)) (rfl : p_ob 0 = some (.inr (4, [some 1, some 2, some 4, some 3, some 5, some 6, some 7, some 19]))) rfl,
  fun _ _ _ _ _ _ _ _ => p_r (by decide +kernel : p_at 89 33 = some (.iload_n 1)) rfl,
  fun _ _ _ _ _ _ _ _ _ => p_rcv (nl := 2) (by decide +kernel : p_at 89 34 = some (.invokevirtual 110)) (by decide +kernel : p_inv (p_own 89) 110 = some (1, 39, 2)) (by decide +kernel) (rfl : p_ob 1 = some (.inr (3, [some 18, none]))) rfl rfl (Nat.le_of_ble_eq_true rfl) (Nat.le_of_ble_eq_true rfl) (Nat.le_of_ble_eq_true rfl) rfl,
  fun _ _ _ _ _ _ _ _ _ => p_r (by decide +kernel : p_at 89 37 = some (.iadd)) rfl,
  fun _ _ _ _ _ _ _ _ => p_r (by decide +kernel : p_at 89 38 = some (.istore 9)) rfl,
  fun _ _ _ _ _ _ _ _ => p_r (by decide +kernel : p_at 89 40 = some (.aload_n 0)) rfl,
  fun _ _ _ _ _ _ _ _ => p_rgf (f := some 1) (by decide +kernel : p_at 89 41 = some (.getfield 10)) (by decide +kernel : p_fld (p_own 89) 10 = some (4, 0)) (rfl : p_ob 0 = some (.inr (4, [some 1, some 2, some 4, some 3, some 5, some 6, some 7, some 19]))) rfl,
  fun _ _ _ _ _ _ _ _ => p_r (by decide +kernel : p_at 89 44 = some (.iload_n 1)) rfl,
  fun _ _ _ _ _ _ _ _ _ => p_rcv (nl := 2) (by decide +kernel : p_at 89 45 = some (.invokevirtual 154)) (by decide +kernel : p_inv (p_own 89) 154 = some (1, 40, 2)) (by decide +kernel) (rfl : p_ob 1 = some (.inr (3, [some 18, none]))) rfl rfl (Nat.le_of_ble_eq_true rfl) (Nat.le_of_ble_eq_true rfl) (Nat.le_of_ble_eq_true rfl) rfl,
  fun _ _ _ _ _ _ _ _ _ => p_r (by decide +kernel : p_at 89 48 = some (.istore 10)) rfl,
  fun _ _ _ _ _ _ _ _ _ _ _ _ => p_r (by decide +kernel : p_at 89 52 = some (.iload 9)) rfl,
  fun _ _ _ _ _ _ _ _ _ _ _ _ _ => p_rb2 (c := fun x y => decide (y ≤ x)) (off := 56) (by decide +kernel : p_at 89 54 = some (.if_icmp .ge 56)) (by decide +kernel) rfl rfl rfl,
  fun _ _ _ _ _ _ _ _ _ _ _ => p_r (by decide +kernel : p_at 89 57 = some (.aload_n 0)) rfl,
  fun _ _ _ _ _ _ _ _ _ _ _ => p_rgf (f := some 4) (by decide +kernel : p_at 89 58 = some (.getfield 26)) (by decide +kernel : p_fld (p_own 89) 26 = some (4, 2)) (rfl : p_ob 0 = some (.inr (4, [some 1, some 2, some 4, some 3, some 5, some 6, some 7, some 19]))) rfl,
  fun _ _ _ _ _ _ _ _ _ _ _ => p_r (by decide +kernel : p_at 89 61 = some (.iload 10)) rfl,
  fun _ _ _ _ _ _ _ _ _ _ _ _ => p_rcv (nl := 2) (by decide +kernel : p_at 89 63 = some (.invokevirtual 179)) (by decide +kernel : p_inv (p_own 89) 179 = some (1, 26, 2)) (by decide +kernel) (rfl : p_ob 4 = some (.inr (2, [some 11]))) rfl rfl (Nat.le_of_ble_eq_true rfl) (Nat.le_of_ble_eq_true rfl) (Nat.le_of_ble_eq_true rfl) rfl,
  fun _ _ _ _ _ _ _ _ _ _ _ _ => p_r (by decide +kernel : p_at 89 66 = some (.lstore 11)) rfl,
  fun _ _ _ _ _ _ _ _ _ _ _ => p_r (by decide +kernel : p_at 89 68 = some (.lload 11)) rfl,
  fun _ _ _ _ _ _ _ _ _ _ _ _ => p_r (by decide +kernel : p_at 89 70 = some (.lload_n 3)) rfl,
  fun _ _ _ _ _ _ _ _ _ _ _ _ _ => p_rmin (n := 0) (by decide +kernel : p_at 89 71 = some (.invokestatic 264)) (by decide +kernel) (Nat.le_of_ble_eq_true rfl) (by decide +kernel),
  fun _ _ _ _ _ _ _ _ _ _ _ _ => p_r (by decide +kernel : p_at 89 74 = some (.lstore 13)) rfl,
  fun _ _ _ _ _ _ _ _ _ _ _ => p_r (by decide +kernel : p_at 89 76 = some (.lload 7)) rfl,
  fun _ _ _ _ _ _ _ _ _ _ _ _ => p_r (by decide +kernel : p_at 89 78 = some (.lload 13)) rfl,
  fun _ _ _ _ _ _ _ _ _ _ _ _ _ => p_r (by decide +kernel : p_at 89 80 = some (.lload 13)) rfl,
  fun _ _ _ _ _ _ _ _ _ _ _ _ _ _ => p_r (by decide +kernel : p_at 89 82 = some (.lmul)) rfl,
  fun _ _ _ _ _ _ _ _ _ _ _ _ _ => p_r (by decide +kernel : p_at 89 83 = some (.ladd)) rfl,
  fun _ _ _ _ _ _ _ _ _ _ _ _ => p_r (by decide +kernel : p_at 89 84 = some (.lstore 7)) rfl,
  fun _ _ _ _ _ _ _ _ _ _ _ => p_r (by decide +kernel : p_at 89 86 = some (.lload 11)) rfl,
  fun _ _ _ _ _ _ _ _ _ _ _ _ => p_r (by decide +kernel : p_at 89 88 = some (.lload_n 3)) rfl,
  fun _ _ _ _ _ _ _ _ _ _ _ _ _ => p_r (by decide +kernel : p_at 89 89 = some (.lcmp)) rfl,
  fun _ _ _ _ _ _ _ _ _ _ _ _ => p_rb1 (c := fun x => decide (0 < x)) (off := 14) (by decide +kernel : p_at 89 90 = some (.ifCond .gt 14)) (by decide +kernel) rfl rfl rfl,
  fun _ _ _ _ _ _ _ _ _ _ _ => p_r (by decide +kernel : p_at 89 93 = some (.lload 7)) rfl,
  fun _ _ _ _ _ _ _ _ _ _ _ _ => p_rldcJ (by decide +kernel : p_at 89 95 = some (.ldc2_w 163)) (by decide +kernel),
  fun _ _ _ _ _ _ _ _ _ _ _ _ _ => p_r (by decide +kernel : p_at 89 98 = some (.lload 5)) rfl,
  fun _ _ _ _ _ _ _ _ _ _ _ _ _ _ => p_r (by decide +kernel : p_at 89 100 = some (.lmul)) rfl,
  fun _ _ _ _ _ _ _ _ _ _ _ _ _ => p_r (by decide +kernel : p_at 89 101 = some (.lsub)) rfl,
  fun _ _ _ _ _ _ _ _ _ _ _ _ => p_r (by decide +kernel : p_at 89 102 = some (.lstore 7)) rfl,
  fun _ _ _ _ _ _ _ _ _ _ _ => p_r (by decide +kernel : p_at 89 104 = some (.iinc 10 1)) rfl,
  fun _ _ _ _ _ _ _ _ _ _ _ => p_rgo (by decide +kernel : p_at 89 107 = some (.goto (-57))) (by decide +kernel),
  fun _ _ _ _ _ _ _ _ _ _ _ => p_r (by decide +kernel : p_at 89 110 = some (.lload 7)) rfl,
  fun _ _ _ _ _ _ _ _ _ _ _ _ => p_rlret (by decide +kernel : p_at 89 112 = some (.lreturn)) (by decide +kernel)⟩
theorem H89_50 :
  (∀ (scr : pX) (w : pW) (x1 : Int32) (x2 : Int32) (y3 : Int64) (y5 : Int64) (y7 : Int64) (x9 : Int32) (x10 : Int32) (z11 : Value) (z13 : Value), p_ev scr 89 50 [.ref 0, .int x1, .int x2, .long y3, p_U, .long y5, p_U, .long y7, p_U, .int x9, .int x10, z11, p_U, z13, p_U] [] w = p_ev scr 89 52 [.ref 0, .int x1, .int x2, .long y3, p_U, .long y5, p_U, .long y7, p_U, .int x9, .int x10, z11, p_U, z13, p_U] [.int x10] w) :=
  fun _ _ _ _ _ _ _ _ _ _ _ => p_r (by decide +kernel : p_at 89 50 = some (.iload 10)) rfl
-- 90: encode
theorem M90 :
  (∀ (scr : pX) (w : pW), p_ev scr 90 0 [.ref 0] [] w = p_ev scr 90 1 [.ref 0] [.ref 0] w) ∧
  (∀ (scr : pX) (w : pW), p_ev scr 90 1 [.ref 0] [.ref 0] w = p_ev scr 90 4 [.ref 0] [.ref 3] w) ∧
  (∀ (scr : pX) (w : pW), p_ev scr 90 4 [.ref 0] [.ref 3] w = p_ev scr 90 5 [.ref 0] [.ref 0, .ref 3] w) ∧
  (∀ (scr : pX) (w : pW), p_ev scr 90 5 [.ref 0] [.ref 0, .ref 3] w = p_ev scr 90 8 [.ref 0] [.ref 4, .ref 3] w) ∧
  (∀ (scr : pX) (w : pW), p_ev scr 90 8 [.ref 0] [.ref 4, .ref 3] w = p_ev scr 90 9 [.ref 0] [.ref 0, .ref 4, .ref 3] w) ∧
  (∀ (scr : pX) (w : pW), p_ev scr 90 9 [.ref 0] [.ref 0, .ref 4, .ref 3] w = p_ev scr 90 12 [.ref 0] [.ref 1, .ref 4, .ref 3] w) ∧
  (∀ (scr : pX) (w : pW), p_ev scr 90 12 [.ref 0] [.ref 1, .ref 4, .ref 3] w = p_bnd scr 90 12 15 [.ref 0] [.ref 4, .ref 3] (p_ev none 30 0 [.ref 1] [] w)) ∧
  (∀ (scr : pX) (w : pW) (s0 : Int32), p_ev scr 90 15 [.ref 0] [.int s0, .ref 4, .ref 3] w = p_ev scr 90 16 [.ref 0] [.ref 0, .int s0, .ref 4, .ref 3] w) ∧
  (∀ (scr : pX) (w : pW) (s1 : Int32), p_ev scr 90 16 [.ref 0] [.ref 0, .int s1, .ref 4, .ref 3] w = p_ev scr 90 19 [.ref 0] [.ref 1, .int s1, .ref 4, .ref 3] w) ∧
  (∀ (scr : pX) (w : pW) (s1 : Int32), p_ev scr 90 19 [.ref 0] [.ref 1, .int s1, .ref 4, .ref 3] w = p_ev scr 90 20 [.ref 0] [.ref 0, .ref 1, .int s1, .ref 4, .ref 3] w) ∧
  (∀ (scr : pX) (w : pW) (s2 : Int32), p_ev scr 90 20 [.ref 0] [.ref 0, .ref 1, .int s2, .ref 4, .ref 3] w = p_ev scr 90 23 [.ref 0] [.ref 1, .ref 1, .int s2, .ref 4, .ref 3] w) ∧
  (∀ (scr : pX) (w : pW) (s2 : Int32), p_ev scr 90 23 [.ref 0] [.ref 1, .ref 1, .int s2, .ref 4, .ref 3] w = p_ev scr 90 24 [.ref 0] [.int (nI 0), .ref 1, .ref 1, .int s2, .ref 4, .ref 3] w) ∧
  (∀ (scr : pX) (w : pW) (s0 : Int32) (s3 : Int32), p_ev scr 90 24 [.ref 0] [.int s0, .ref 1, .ref 1, .int s3, .ref 4, .ref 3] w = p_bnd scr 90 24 27 [.ref 0] [.ref 1, .int s3, .ref 4, .ref 3] (p_ev none 41 0 [.ref 1, .int s0, p_U, p_U, p_U] [] w)) ∧
  (∀ (scr : pX) (w : pW) (s0 : Int32) (s2 : Int32), p_ev scr 90 27 [.ref 0] [.int s0, .ref 1, .int s2, .ref 4, .ref 3] w = p_bnd scr 90 27 30 [.ref 0] [.int s2, .ref 4, .ref 3] (p_ev none 39 0 [.ref 1, .int s0] [] w)) ∧
  (∀ (scr : pX) (w : pW) (s0 : Int32) (s1 : Int32), p_ev scr 90 30 [.ref 0] [.int s0, .int s1, .ref 4, .ref 3] w = p_bnd scr 90 30 33 [.ref 0] [] (p_ev none 3 0 [.ref 3, .ref 4, .int s1, .int s0, p_U, p_U] [] w)) ∧
  (∀ (scr : pX) (w : pW), p_ev scr 90 33 [.ref 0] [] w = some (.inl none, w, 0)) :=
  ⟨fun _ _ => p_r (by decide +kernel : p_at 90 0 = some (.aload_n 0)) rfl,
  fun _ _ => p_rgf (f := some 3) (by decide +kernel : p_at 90 1 = some (.getfield 33)) (by decide +kernel : p_fld (p_own 90) 33 = some (4, 3)) (rfl : p_ob 0 = some (.inr (4, [some 1, some 2, some 4, some 3, some 5, some 6, some 7, some 19]))) rfl,
  fun _ _ => p_r (by decide +kernel : p_at 90 4 = some (.aload_n 0)) rfl,
  fun _ _ => p_rgf (f := some 4) (by decide +kernel : p_at 90 5 = some (.getfield 26)) (by decide +kernel : p_fld (p_own 90) 26 = some (4, 2)) (rfl : p_ob 0 = some (.inr (4, [some 1, some 2, some 4, some 3, some 5, some 6, some 7, some 19]))) rfl,
  fun _ _ => p_r (by decide +kernel : p_at 90 8 = some (.aload_n 0)) rfl,
  fun _ _ => p_rgf (f := some 1) (by decide +kernel : p_at 90 9 = some (.getfield 10)) (by decide +kernel : p_fld (p_own 90) 10 = some (4, 0)) (rfl : p_ob 0 = some (.inr (4, [some 1, some 2, some 4, some 3, some 5, some 6, some 7, some 19]))) rfl,
  fun _ _ => p_rcv (nl := 1) (by decide +kernel : p_at 90 12 = some (.invokevirtual 57)) (by decide +kernel : p_inv (p_own 90) 57 = some (1, 30, 1)) (by decide +kernel) (rfl : p_ob 1 = some (.inr (3, [some 18, none]))) rfl rfl (Nat.le_of_ble_eq_true rfl) (Nat.le_of_ble_eq_true rfl) (Nat.le_of_ble_eq_true rfl) rfl,
  fun _ _ _ => p_r (by decide +kernel : p_at 90 15 = some (.aload_n 0)) rfl,
  fun _ _ _ => p_rgf (f := some 1) (by decide +kernel : p_at 90 16 = some (.getfield 10)) (by decide +kernel : p_fld (p_own 90) 10 = some (4, 0)) (rfl : p_ob 0 = some (.inr (4, [some 1, some 2, some 4, some 3, some 5, some 6, some 7, some 19]))) rfl,
  fun _ _ _ => p_r (by decide +kernel : p_at 90 19 = some (.aload_n 0)) rfl,
  fun _ _ _ => p_rgf (f := some 1) (by decide +kernel : p_at 90 20 = some (.getfield 10)) (by decide +kernel : p_fld (p_own 90) 10 = some (4, 0)) (rfl : p_ob 0 = some (.inr (4, [some 1, some 2, some 4, some 3, some 5, some 6, some 7, some 19]))) rfl,
  fun _ _ _ => p_r (by decide +kernel : p_at 90 23 = some (.iconst 0)) rfl,
  fun _ _ _ _ => p_rcv (nl := 5) (by decide +kernel : p_at 90 24 = some (.invokevirtual 133)) (by decide +kernel : p_inv (p_own 90) 133 = some (1, 41, 2)) (by decide +kernel) (rfl : p_ob 1 = some (.inr (3, [some 18, none]))) rfl rfl (Nat.le_of_ble_eq_true rfl) (Nat.le_of_ble_eq_true rfl) (Nat.le_of_ble_eq_true rfl) rfl,
  fun _ _ _ _ => p_rcv (nl := 2) (by decide +kernel : p_at 90 27 = some (.invokevirtual 110)) (by decide +kernel : p_inv (p_own 90) 110 = some (1, 39, 2)) (by decide +kernel) (rfl : p_ob 1 = some (.inr (3, [some 18, none]))) rfl rfl (Nat.le_of_ble_eq_true rfl) (Nat.le_of_ble_eq_true rfl) (Nat.le_of_ble_eq_true rfl) rfl,
  fun _ _ _ _ => p_rcv (nl := 6) (by decide +kernel : p_at 90 30 = some (.invokevirtual 270)) (by decide +kernel : p_inv (p_own 90) 270 = some (1, 3, 4)) (by decide +kernel) (rfl : p_ob 3 = some (.inr (0, [some 9, some 10, some 20, some 21, some 22, none, none, none]))) rfl rfl (Nat.le_of_ble_eq_true rfl) (Nat.le_of_ble_eq_true rfl) (Nat.le_of_ble_eq_true rfl) rfl,
  fun _ _ => p_rvret (by decide +kernel : p_at 90 33 = some (.return_)) (by decide +kernel)⟩
-- 91: readFirst
theorem M91 :
  (∀ (scr : pX) (w : pW) (x1 : Int32), p_ev scr 91 0 [.ref 0, .int x1, p_U] [] w = p_ev scr 91 1 [.ref 0, .int x1, p_U] [.ref 0] w) ∧
  (∀ (scr : pX) (w : pW) (x1 : Int32), p_ev scr 91 1 [.ref 0, .int x1, p_U] [.ref 0] w = p_ev scr 91 4 [.ref 0, .int x1, p_U] [.ref 6] w) ∧
  (∀ (scr : pX) (w : pW) (x1 : Int32), p_ev scr 91 4 [.ref 0, .int x1, p_U] [.ref 6] w = p_bnd scr 91 4 7 [.ref 0, .int x1, p_U] [] (p_ev none 27 0 [.ref 6, p_U] [] w)) ∧
  (∀ (scr : pX) (w : pW) (x1 : Int32), p_ev scr 91 7 [.ref 0, .int x1, p_U] [] w = p_ev scr 91 8 [.ref 0, .int x1, p_U] [.int (nI 0)] w) ∧
  (∀ (scr : pX) (w : pW) (x1 : Int32) (s0 : Int32), p_ev scr 91 8 [.ref 0, .int x1, p_U] [.int s0] w = p_ev scr 91 9 [.ref 0, .int x1, .int s0] [] w) ∧
  (∀ (scr : pX) (w : pW) (x1 : Int32) (x2 : Int32) (s0 : Int32), p_ev scr 91 10 [.ref 0, .int x1, .int x2] [.int s0] w = p_ev scr 91 11 [.ref 0, .int x1, .int x2] [.int x1, .int s0] w) ∧
  (∀ (scr : pX) (w : pW) (x1 : Int32) (x2 : Int32) (s0 : Int32) (s1 : Int32), p_ev scr 91 11 [.ref 0, .int x1, .int x2] [.int s0, .int s1] w = if s0 ≤ s1 then p_ev scr 91 44 [.ref 0, .int x1, .int x2] [] w else p_ev scr 91 14 [.ref 0, .int x1, .int x2] [] w) ∧
  (∀ (scr : pX) (w : pW) (x1 : Int32) (x2 : Int32), p_ev scr 91 14 [.ref 0, .int x1, .int x2] [] w = p_ev scr 91 15 [.ref 0, .int x1, .int x2] [.int x2] w) ∧
  (∀ (scr : pX) (w : pW) (x1 : Int32) (x2 : Int32) (s0 : Int32), p_ev scr 91 15 [.ref 0, .int x1, .int x2] [.int s0] w = p_ev scr 91 16 [.ref 0, .int x1, .int x2] [.ref 0, .int s0] w) ∧
  (∀ (scr : pX) (w : pW) (x1 : Int32) (x2 : Int32) (s1 : Int32), p_ev scr 91 16 [.ref 0, .int x1, .int x2] [.ref 0, .int s1] w = p_ev scr 91 19 [.ref 0, .int x1, .int x2] [.ref 3, .int s1] w) ∧
  (∀ (scr : pX) (w : pW) (x1 : Int32) (x2 : Int32) (s1 : Int32), p_ev scr 91 19 [.ref 0, .int x1, .int x2] [.ref 3, .int s1] w = p_bnd scr 91 19 22 [.ref 0, .int x1, .int x2] [.int s1] (p_ev none 1 0 [.ref 3] [] w)) ∧
  (∀ (scr : pX) (w : pW) (x1 : Int32) (x2 : Int32) (s0 : Int32) (s1 : Int32), p_ev scr 91 22 [.ref 0, .int x1, .int x2] [.int s0, .int s1] w = if s0 ≤ s1 then p_ev scr 91 44 [.ref 0, .int x1, .int x2] [] w else p_ev scr 91 25 [.ref 0, .int x1, .int x2] [] w) ∧
  (∀ (scr : pX) (w : pW) (x1 : Int32) (x2 : Int32), p_ev scr 91 25 [.ref 0, .int x1, .int x2] [] w = p_ev scr 91 26 [.ref 0, .int x1, .int x2] [.ref 0] w) ∧
  (∀ (scr : pX) (w : pW) (x1 : Int32) (x2 : Int32), p_ev scr 91 26 [.ref 0, .int x1, .int x2] [.ref 0] w = p_ev scr 91 29 [.ref 0, .int x1, .int x2] [.ref 3] w) ∧
  (∀ (scr : pX) (w : pW) (x1 : Int32) (x2 : Int32), p_ev scr 91 29 [.ref 0, .int x1, .int x2] [.ref 3] w = p_ev scr 91 30 [.ref 0, .int x1, .int x2] [.int x2, .ref 3] w) ∧
  (∀ (scr : pX) (w : pW) (x1 : Int32) (x2 : Int32) (s0 : Int32), p_ev scr 91 30 [.ref 0, .int x1, .int x2] [.int s0, .ref 3] w = p_ev scr 91 31 [.ref 0, .int x1, .int x2] [.ref 0, .int s0, .ref 3] w) ∧
  (∀ (scr : pX) (w : pW) (x1 : Int32) (x2 : Int32) (s1 : Int32), p_ev scr 91 31 [.ref 0, .int x1, .int x2] [.ref 0, .int s1, .ref 3] w = p_ev scr 91 34 [.ref 0, .int x1, .int x2] [.ref 6, .int s1, .ref 3] w) ∧
  (∀ (scr : pX) (w : pW) (x1 : Int32) (x2 : Int32) (s1 : Int32), p_ev scr 91 34 [.ref 0, .int x1, .int x2] [.ref 6, .int s1, .ref 3] w = p_bnd scr 91 34 37 [.ref 0, .int x1, .int x2] [] (p_ev none 4 0 [.ref 3, .int s1, .ref 6, p_U] [] w)) ∧
  (∀ (scr : pX) (w : pW) (x1 : Int32) (x2 : Int32) (s0 : Int32), p_ev scr 91 37 [.ref 0, .int x1, .int x2] [.int s0] w = p_ev scr 91 38 [.ref 0, .int x1, .int x2] [] w) ∧
  (∀ (scr : pX) (w : pW) (x1 : Int32) (x2 : Int32), p_ev scr 91 38 [.ref 0, .int x1, .int x2] [] w = p_ev scr 91 41 [.ref 0, .int x1, .int (x2 + (nI 1))] [] w) ∧
  (∀ (scr : pX) (w : pW) (x1 : Int32) (x2 : Int32), p_ev scr 91 41 [.ref 0, .int x1, .int x2] [] w = p_ev scr 91 9 [.ref 0, .int x1, .int x2] [] w) ∧
  (∀ (scr : pX) (w : pW) (x1 : Int32) (x2 : Int32), p_ev scr 91 44 [.ref 0, .int x1, .int x2] [] w = some (.inl none, w, 0)) :=
  ⟨fun _ _ _ => p_r (by decide +kernel : p_at 91 0 = some (.aload_n 0)) rfl,
  fun _ _ _ => p_rgf (f := some 6) (by decide +kernel : p_at 91 1 = some (.getfield 40)) (by decide +kernel : p_fld (p_own 91) 40 = some (4, 5)) (rfl : p_ob 0 = some (.inr (4, [some 1, some 2, some 4, some 3, some 5, some 6, some 7, some 19]))) rfl,
  fun _ _ _ => p_rcv (nl := 2) (by decide +kernel : p_at 91 4 = some (.invokevirtual 65)) (by decide +kernel : p_inv (p_own 91) 65 = some (1, 27, 1)) (by decide +kernel) (rfl : p_ob 6 = some (.inr (2, [some 13]))) rfl rfl (Nat.le_of_ble_eq_true rfl) (Nat.le_of_ble_eq_true rfl) (Nat.le_of_ble_eq_true rfl) rfl,
  fun _ _ _ => p_r (by decide +kernel : p_at 91 7 = some (.iconst 0)) rfl,
  fun _ _ _ _ => p_r (by decide +kernel : p_at 91 8 = some (.istore_n 2)) rfl,
  fun _ _ _ _ _ => p_r (by decide +kernel : p_at 91 10 = some (.iload_n 1)) rfl,
  fun _ _ _ _ _ _ => p_rb2 (c := fun x y => decide (y ≤ x)) (off := 33) (by decide +kernel : p_at 91 11 = some (.if_icmp .ge 33)) (by decide +kernel) rfl rfl rfl,
  fun _ _ _ _ => p_r (by decide +kernel : p_at 91 14 = some (.iload_n 2)) rfl,
  fun _ _ _ _ _ => p_r (by decide +kernel : p_at 91 15 = some (.aload_n 0)) rfl,
  fun _ _ _ _ _ => p_rgf (f := some 3) (by decide +kernel : p_at 91 16 = some (.getfield 33)) (by decide +kernel : p_fld (p_own 91) 33 = some (4, 3)) (rfl : p_ob 0 = some (.inr (4, [some 1, some 2, some 4, some 3, some 5, some 6, some 7, some 19]))) rfl,
  fun _ _ _ _ _ => p_rcv (nl := 1) (by decide +kernel : p_at 91 19 = some (.invokevirtual 190)) (by decide +kernel : p_inv (p_own 91) 190 = some (1, 1, 1)) (by decide +kernel) (rfl : p_ob 3 = some (.inr (0, [some 9, some 10, some 20, some 21, some 22, none, none, none]))) rfl rfl (Nat.le_of_ble_eq_true rfl) (Nat.le_of_ble_eq_true rfl) (Nat.le_of_ble_eq_true rfl) rfl,
  fun _ _ _ _ _ _ => p_rb2 (c := fun x y => decide (y ≤ x)) (off := 22) (by decide +kernel : p_at 91 22 = some (.if_icmp .ge 22)) (by decide +kernel) rfl rfl rfl,
  fun _ _ _ _ => p_r (by decide +kernel : p_at 91 25 = some (.aload_n 0)) rfl,
  fun _ _ _ _ => p_rgf (f := some 3) (by decide +kernel : p_at 91 26 = some (.getfield 33)) (by decide +kernel : p_fld (p_own 91) 33 = some (4, 3)) (rfl : p_ob 0 = some (.inr (4, [some 1, some 2, some 4, some 3, some 5, some 6, some 7, some 19]))) rfl,
  fun _ _ _ _ => p_r (by decide +kernel : p_at 91 29 = some (.iload_n 2)) rfl,
  fun _ _ _ _ _ => p_r (by decide +kernel : p_at 91 30 = some (.aload_n 0)) rfl,
  fun _ _ _ _ _ => p_rgf (f := some 6) (by decide +kernel : p_at 91 31 = some (.getfield 40)) (by decide +kernel : p_fld (p_own 91) 40 = some (4, 5)) (rfl : p_ob 0 = some (.inr (4, [some 1, some 2, some 4, some 3, some 5, some 6, some 7, some 19]))) rfl,
  fun _ _ _ _ _ => p_rcv (nl := 4) (by decide +kernel : p_at 91 34 = some (.invokevirtual 211)) (by decide +kernel : p_inv (p_own 91) 211 = some (1, 4, 3)) (by decide +kernel) (rfl : p_ob 3 = some (.inr (0, [some 9, some 10, some 20, some 21, some 22, none, none, none]))) rfl rfl (Nat.le_of_ble_eq_true rfl) (Nat.le_of_ble_eq_true rfl) (Nat.le_of_ble_eq_true rfl) rfl,
  fun _ _ _ _ _ => p_r (by decide +kernel : p_at 91 37 = some (.pop)) rfl,
  fun _ _ _ _ => p_r (by decide +kernel : p_at 91 38 = some (.iinc 2 1)) rfl,
  fun _ _ _ _ => p_rgo (by decide +kernel : p_at 91 41 = some (.goto (-32))) (by decide +kernel),
  fun _ _ _ _ => p_rvret (by decide +kernel : p_at 91 44 = some (.return_)) (by decide +kernel)⟩
theorem H91_9 :
  (∀ (scr : pX) (w : pW) (x1 : Int32) (x2 : Int32), p_ev scr 91 9 [.ref 0, .int x1, .int x2] [] w = p_ev scr 91 10 [.ref 0, .int x1, .int x2] [.int x2] w) :=
  fun _ _ _ _ => p_r (by decide +kernel : p_at 91 9 = some (.iload_n 2)) rfl
-- 92: bringBack
theorem M92 :
  (∀ (scr : pX) (w : pW), p_ev scr 92 0 [.ref 0] [] w = p_ev scr 92 1 [.ref 0] [.ref 0] w) ∧
  (∀ (scr : pX) (w : pW), p_ev scr 92 1 [.ref 0] [.ref 0] w = p_ev scr 92 4 [.ref 0] [.ref 7] w) ∧
  (∀ (scr : pX) (w : pW), p_ev scr 92 4 [.ref 0] [.ref 7] w = p_ev scr 92 5 [.ref 0] [.ref 0, .ref 7] w) ∧
  (∀ (scr : pX) (w : pW), p_ev scr 92 5 [.ref 0] [.ref 0, .ref 7] w = p_ev scr 92 8 [.ref 0] [.ref 6, .ref 7] w) ∧
  (∀ (scr : pX) (w : pW), p_ev scr 92 8 [.ref 0] [.ref 6, .ref 7] w = p_bnd scr 92 8 11 [.ref 0] [] (p_ev none 28 0 [.ref 7, .ref 6, p_U] [] w)) ∧
  (∀ (scr : pX) (w : pW), p_ev scr 92 11 [.ref 0] [] w = p_ev scr 92 12 [.ref 0] [.ref 0] w) ∧
  (∀ (scr : pX) (w : pW), p_ev scr 92 12 [.ref 0] [.ref 0] w = p_ev scr 92 13 [.ref 0] [.ref 0, .ref 0] w) ∧
  (∀ (scr : pX) (w : pW), p_ev scr 92 13 [.ref 0] [.ref 0, .ref 0] w = p_ev scr 92 16 [.ref 0] [.ref 7, .ref 0] w) ∧
  (∀ (scr : pX) (w : pW), p_ev scr 92 16 [.ref 0] [.ref 7, .ref 0] w = p_ev scr 92 17 [.ref 0] [.int (nI 1), .ref 7, .ref 0] w) ∧
  (∀ (scr : pX) (w : pW) (s0 : Int32), p_ev scr 92 17 [.ref 0] [.int s0, .ref 7, .ref 0] w = p_bnd scr 92 17 20 [.ref 0] [] (p_ev none 82 0 [.ref 0, .ref 7, .int s0, p_U, p_U] [] w)) ∧
  (∀ (scr : pX) (w : pW) (s0 : Int32), p_ev scr 92 20 [.ref 0] [.int s0] w = p_ev scr 92 21 [.ref 0] [] w) ∧
  (∀ (scr : pX) (w : pW), p_ev scr 92 21 [.ref 0] [] w = some (.inl none, w, 0)) :=
  ⟨fun _ _ => p_r (by decide +kernel : p_at 92 0 = some (.aload_n 0)) rfl,
  fun _ _ => p_rgf (f := some 7) (by decide +kernel : p_at 92 1 = some (.getfield 43)) (by decide +kernel : p_fld (p_own 92) 43 = some (4, 6)) (rfl : p_ob 0 = some (.inr (4, [some 1, some 2, some 4, some 3, some 5, some 6, some 7, some 19]))) rfl,
  fun _ _ => p_r (by decide +kernel : p_at 92 4 = some (.aload_n 0)) rfl,
  fun _ _ => p_rgf (f := some 6) (by decide +kernel : p_at 92 5 = some (.getfield 40)) (by decide +kernel : p_fld (p_own 92) 40 = some (4, 5)) (rfl : p_ob 0 = some (.inr (4, [some 1, some 2, some 4, some 3, some 5, some 6, some 7, some 19]))) rfl,
  fun _ _ => p_rcv (nl := 3) (by decide +kernel : p_at 92 8 = some (.invokevirtual 260)) (by decide +kernel : p_inv (p_own 92) 260 = some (1, 28, 2)) (by decide +kernel) (rfl : p_ob 7 = some (.inr (2, [some 14]))) rfl rfl (Nat.le_of_ble_eq_true rfl) (Nat.le_of_ble_eq_true rfl) (Nat.le_of_ble_eq_true rfl) rfl,
  fun _ _ => p_r (by decide +kernel : p_at 92 11 = some (.aload_n 0)) rfl,
  fun _ _ => p_r (by decide +kernel : p_at 92 12 = some (.aload_n 0)) rfl,
  fun _ _ => p_rgf (f := some 7) (by decide +kernel : p_at 92 13 = some (.getfield 43)) (by decide +kernel : p_fld (p_own 92) 43 = some (4, 6)) (rfl : p_ob 0 = some (.inr (4, [some 1, some 2, some 4, some 3, some 5, some 6, some 7, some 19]))) rfl,
  fun _ _ => p_r (by decide +kernel : p_at 92 16 = some (.iconst 1)) rfl,
  fun _ _ _ => p_rcv (nl := 5) (by decide +kernel : p_at 92 17 = some (.invokevirtual 242)) (by decide +kernel : p_inv (p_own 92) 242 = some (1, 82, 3)) (by decide +kernel) (rfl : p_ob 0 = some (.inr (4, [some 1, some 2, some 4, some 3, some 5, some 6, some 7, some 19]))) rfl rfl (Nat.le_of_ble_eq_true rfl) (Nat.le_of_ble_eq_true rfl) (Nat.le_of_ble_eq_true rfl) rfl,
  fun _ _ _ => p_r (by decide +kernel : p_at 92 20 = some (.pop)) rfl,
  fun _ _ => p_rvret (by decide +kernel : p_at 92 21 = some (.return_)) (by decide +kernel)⟩
-- 93: errorOfBrought
theorem M93 :
  (∀ (scr : pX) (w : pW), p_ev scr 93 0 [.ref 0, p_U, p_U, p_U] [] w = p_ev scr 93 1 [.ref 0, p_U, p_U, p_U] [.long (lN 0)] w) ∧
  (∀ (scr : pX) (w : pW) (t0 : Int64), p_ev scr 93 1 [.ref 0, p_U, p_U, p_U] [.long t0] w = p_ev scr 93 2 [.ref 0, .long t0, p_U, p_U] [] w) ∧
  (∀ (scr : pX) (w : pW) (y1 : Int64), p_ev scr 93 2 [.ref 0, .long y1, p_U, p_U] [] w = p_ev scr 93 3 [.ref 0, .long y1, p_U, p_U] [.int (nI 0)] w) ∧
  (∀ (scr : pX) (w : pW) (y1 : Int64) (s0 : Int32), p_ev scr 93 3 [.ref 0, .long y1, p_U, p_U] [.int s0] w = p_ev scr 93 4 [.ref 0, .long y1, p_U, .int s0] [] w) ∧
  (∀ (scr : pX) (w : pW) (y1 : Int64) (x3 : Int32) (s0 : Int32), p_ev scr 93 5 [.ref 0, .long y1, p_U, .int x3] [.int s0] w = p_ev scr 93 6 [.ref 0, .long y1, p_U, .int x3] [.ref 0, .int s0] w) ∧
  (∀ (scr : pX) (w : pW) (y1 : Int64) (x3 : Int32) (s1 : Int32), p_ev scr 93 6 [.ref 0, .long y1, p_U, .int x3] [.ref 0, .int s1] w = p_ev scr 93 9 [.ref 0, .long y1, p_U, .int x3] [.ref 1, .int s1] w) ∧
  (∀ (scr : pX) (w : pW) (y1 : Int64) (x3 : Int32) (s1 : Int32), p_ev scr 93 9 [.ref 0, .long y1, p_U, .int x3] [.ref 1, .int s1] w = p_bnd scr 93 9 12 [.ref 0, .long y1, p_U, .int x3] [.int s1] (p_ev none 30 0 [.ref 1] [] w)) ∧
  (∀ (scr : pX) (w : pW) (y1 : Int64) (x3 : Int32) (s0 : Int32) (s1 : Int32), p_ev scr 93 12 [.ref 0, .long y1, p_U, .int x3] [.int s0, .int s1] w = if s0 ≤ s1 then p_ev scr 93 44 [.ref 0, .long y1, p_U, .int x3] [] w else p_ev scr 93 15 [.ref 0, .long y1, p_U, .int x3] [] w) ∧
  (∀ (scr : pX) (w : pW) (y1 : Int64) (x3 : Int32), p_ev scr 93 15 [.ref 0, .long y1, p_U, .int x3] [] w = p_ev scr 93 16 [.ref 0, .long y1, p_U, .int x3] [.long y1] w) ∧
  (∀ (scr : pX) (w : pW) (y1 : Int64) (x3 : Int32) (t0 : Int64), p_ev scr 93 16 [.ref 0, .long y1, p_U, .int x3] [.long t0] w = p_ev scr 93 17 [.ref 0, .long y1, p_U, .int x3] [.ref 0, .long t0] w) ∧
  (∀ (scr : pX) (w : pW) (y1 : Int64) (x3 : Int32) (t1 : Int64), p_ev scr 93 17 [.ref 0, .long y1, p_U, .int x3] [.ref 0, .long t1] w = p_ev scr 93 20 [.ref 0, .long y1, p_U, .int x3] [.ref 7, .long t1] w) ∧
  (∀ (scr : pX) (w : pW) (y1 : Int64) (x3 : Int32) (t1 : Int64), p_ev scr 93 20 [.ref 0, .long y1, p_U, .int x3] [.ref 7, .long t1] w = p_ev scr 93 21 [.ref 0, .long y1, p_U, .int x3] [.int x3, .ref 7, .long t1] w) ∧
  (∀ (scr : pX) (w : pW) (y1 : Int64) (x3 : Int32) (s0 : Int32) (t2 : Int64), p_ev scr 93 21 [.ref 0, .long y1, p_U, .int x3] [.int s0, .ref 7, .long t2] w = p_bnd scr 93 21 24 [.ref 0, .long y1, p_U, .int x3] [.long t2] (p_ev none 24 0 [.ref 7, .int s0] [] w)) ∧
  (∀ (scr : pX) (w : pW) (y1 : Int64) (x3 : Int32) (t0 : Int64) (t1 : Int64), p_ev scr 93 24 [.ref 0, .long y1, p_U, .int x3] [.long t0, .long t1] w = p_ev scr 93 25 [.ref 0, .long y1, p_U, .int x3] [.ref 0, .long t0, .long t1] w) ∧
  (∀ (scr : pX) (w : pW) (y1 : Int64) (x3 : Int32) (t1 : Int64) (t2 : Int64), p_ev scr 93 25 [.ref 0, .long y1, p_U, .int x3] [.ref 0, .long t1, .long t2] w = p_ev scr 93 28 [.ref 0, .long y1, p_U, .int x3] [.ref 5, .long t1, .long t2] w) ∧
  (∀ (scr : pX) (w : pW) (y1 : Int64) (x3 : Int32) (t1 : Int64) (t2 : Int64), p_ev scr 93 28 [.ref 0, .long y1, p_U, .int x3] [.ref 5, .long t1, .long t2] w = p_ev scr 93 29 [.ref 0, .long y1, p_U, .int x3] [.int x3, .ref 5, .long t1, .long t2] w) ∧
  (∀ (scr : pX) (w : pW) (y1 : Int64) (x3 : Int32) (s0 : Int32) (t2 : Int64) (t3 : Int64), p_ev scr 93 29 [.ref 0, .long y1, p_U, .int x3] [.int s0, .ref 5, .long t2, .long t3] w = p_bnd scr 93 29 32 [.ref 0, .long y1, p_U, .int x3] [.long t2, .long t3] (p_ev none 24 0 [.ref 5, .int s0] [] w)) ∧
  (∀ (scr : pX) (w : pW) (y1 : Int64) (x3 : Int32) (t0 : Int64) (t1 : Int64) (t2 : Int64), p_ev scr 93 32 [.ref 0, .long y1, p_U, .int x3] [.long t0, .long t1, .long t2] w = p_ev scr 93 33 [.ref 0, .long y1, p_U, .int x3] [.long (t1 - t0), .long t2] w) ∧
  (∀ (scr : pX) (w : pW) (y1 : Int64) (x3 : Int32) (t0 : Int64) (t1 : Int64), p_ev scr 93 33 [.ref 0, .long y1, p_U, .int x3] [.long t0, .long t1] w = p_ev scr 93 36 [.ref 0, .long y1, p_U, .int x3] [.long (p_abs t0), .long t1] w) ∧
  (∀ (scr : pX) (w : pW) (y1 : Int64) (x3 : Int32) (t0 : Int64) (t1 : Int64), p_ev scr 93 36 [.ref 0, .long y1, p_U, .int x3] [.long t0, .long t1] w = p_ev scr 93 37 [.ref 0, .long y1, p_U, .int x3] [.long (t1 + t0)] w) ∧
  (∀ (scr : pX) (w : pW) (y1 : Int64) (x3 : Int32) (t0 : Int64), p_ev scr 93 37 [.ref 0, .long y1, p_U, .int x3] [.long t0] w = p_ev scr 93 38 [.ref 0, .long t0, p_U, .int x3] [] w) ∧
  (∀ (scr : pX) (w : pW) (y1 : Int64) (x3 : Int32), p_ev scr 93 38 [.ref 0, .long y1, p_U, .int x3] [] w = p_ev scr 93 41 [.ref 0, .long y1, p_U, .int (x3 + (nI 1))] [] w) ∧
  (∀ (scr : pX) (w : pW) (y1 : Int64) (x3 : Int32), p_ev scr 93 41 [.ref 0, .long y1, p_U, .int x3] [] w = p_ev scr 93 4 [.ref 0, .long y1, p_U, .int x3] [] w) ∧
  (∀ (scr : pX) (w : pW) (y1 : Int64) (x3 : Int32), p_ev scr 93 44 [.ref 0, .long y1, p_U, .int x3] [] w = p_ev scr 93 45 [.ref 0, .long y1, p_U, .int x3] [.long y1] w) ∧
  (∀ (scr : pX) (w : pW) (y1 : Int64) (x3 : Int32) (t0 : Int64), p_ev scr 93 45 [.ref 0, .long y1, p_U, .int x3] [.long t0] w = some (.inl (some (.long t0)), w, 0)) :=
  ⟨fun _ _ => p_r (by decide +kernel : p_at 93 0 = some (.lconst 0)) rfl,
  fun _ _ _ => p_r (by decide +kernel : p_at 93 1 = some (.lstore_n 1)) rfl,
  fun _ _ _ => p_r (by decide +kernel : p_at 93 2 = some (.iconst 0)) rfl,
  fun _ _ _ _ => p_r (by decide +kernel : p_at 93 3 = some (.istore_n 3)) rfl,
  fun _ _ _ _ _ => p_r (by decide +kernel : p_at 93 5 = some (.aload_n 0)) rfl,
  fun _ _ _ _ _ => p_rgf (f := some 1) (by decide +kernel : p_at 93 6 = some (.getfield 10)) (by decide +kernel : p_fld (p_own 93) 10 = some (4, 0)) (rfl : p_ob 0 = some (.inr (4, [some 1, some 2, some 4, some 3, some 5, some 6, some 7, some 19]))) rfl,
  fun _ _ _ _ _ => p_rcv (nl := 1) (by decide +kernel : p_at 93 9 = some (.invokevirtual 57)) (by decide +kernel : p_inv (p_own 93) 57 = some (1, 30, 1)) (by decide +kernel) (rfl : p_ob 1 = some (.inr (3, [some 18, none]))) rfl rfl (Nat.le_of_ble_eq_true rfl) (Nat.le_of_ble_eq_true rfl) (Nat.le_of_ble_eq_true rfl) rfl,
  fun _ _ _ _ _ _ => p_rb2 (c := fun x y => decide (y ≤ x)) (off := 32) (by decide +kernel : p_at 93 12 = some (.if_icmp .ge 32)) (by decide +kernel) rfl rfl rfl,
  fun _ _ _ _ => p_r (by decide +kernel : p_at 93 15 = some (.lload_n 1)) rfl,
  fun _ _ _ _ _ => p_r (by decide +kernel : p_at 93 16 = some (.aload_n 0)) rfl,
  fun _ _ _ _ _ => p_rgf (f := some 7) (by decide +kernel : p_at 93 17 = some (.getfield 43)) (by decide +kernel : p_fld (p_own 93) 43 = some (4, 6)) (rfl : p_ob 0 = some (.inr (4, [some 1, some 2, some 4, some 3, some 5, some 6, some 7, some 19]))) rfl,
  fun _ _ _ _ _ => p_r (by decide +kernel : p_at 93 20 = some (.iload_n 3)) rfl,
  fun _ _ _ _ _ _ => p_rcv (nl := 2) (by decide +kernel : p_at 93 21 = some (.invokevirtual 76)) (by decide +kernel : p_inv (p_own 93) 76 = some (1, 24, 2)) (by decide +kernel) (rfl : p_ob 7 = some (.inr (2, [some 14]))) rfl rfl (Nat.le_of_ble_eq_true rfl) (Nat.le_of_ble_eq_true rfl) (Nat.le_of_ble_eq_true rfl) rfl,
  fun _ _ _ _ _ _ => p_r (by decide +kernel : p_at 93 24 = some (.aload_n 0)) rfl,
  fun _ _ _ _ _ _ => p_rgf (f := some 5) (by decide +kernel : p_at 93 25 = some (.getfield 37)) (by decide +kernel : p_fld (p_own 93) 37 = some (4, 4)) (rfl : p_ob 0 = some (.inr (4, [some 1, some 2, some 4, some 3, some 5, some 6, some 7, some 19]))) rfl,
  fun _ _ _ _ _ _ => p_r (by decide +kernel : p_at 93 28 = some (.iload_n 3)) rfl,
  fun _ _ _ _ _ _ _ => p_rcv (nl := 2) (by decide +kernel : p_at 93 29 = some (.invokevirtual 76)) (by decide +kernel : p_inv (p_own 93) 76 = some (1, 24, 2)) (by decide +kernel) (rfl : p_ob 5 = some (.inr (2, [some 12]))) rfl rfl (Nat.le_of_ble_eq_true rfl) (Nat.le_of_ble_eq_true rfl) (Nat.le_of_ble_eq_true rfl) rfl,
  fun _ _ _ _ _ _ _ => p_r (by decide +kernel : p_at 93 32 = some (.lsub)) rfl,
  fun _ _ _ _ _ _ => p_rabs (n := 0) (by decide +kernel : p_at 93 33 = some (.invokestatic 273)) (by decide +kernel) (Nat.le_of_ble_eq_true rfl) (by decide +kernel),
  fun _ _ _ _ _ _ => p_r (by decide +kernel : p_at 93 36 = some (.ladd)) rfl,
  fun _ _ _ _ _ => p_r (by decide +kernel : p_at 93 37 = some (.lstore_n 1)) rfl,
  fun _ _ _ _ => p_r (by decide +kernel : p_at 93 38 = some (.iinc 3 1)) rfl,
  fun _ _ _ _ => p_rgo (by decide +kernel : p_at 93 41 = some (.goto (-37))) (by decide +kernel),
  fun _ _ _ _ => p_r (by decide +kernel : p_at 93 44 = some (.lload_n 1)) rfl,
  fun _ _ _ _ _ => p_rlret (by decide +kernel : p_at 93 45 = some (.lreturn)) (by decide +kernel)⟩
theorem H93_4 :
  (∀ (scr : pX) (w : pW) (y1 : Int64) (x3 : Int32), p_ev scr 93 4 [.ref 0, .long y1, p_U, .int x3] [] w = p_ev scr 93 5 [.ref 0, .long y1, p_U, .int x3] [.int x3] w) :=
  fun _ _ _ _ => p_r (by decide +kernel : p_at 93 4 = some (.iload_n 3)) rfl
