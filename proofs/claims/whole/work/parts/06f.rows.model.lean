/-! what the instructions of LiftingWorkshopModel do, written by wip/whole/gen/rules.py -/
-- 95: thrown
theorem M95 :
  (∀ (scr : pX) (w : pW), p_ev scr 95 0 [.ref 24] [] w = p_ev scr 95 1 [.ref 24] [.ref 24] w) ∧
  (∀ (scr : pX) (w : pW), p_ev scr 95 1 [.ref 24] [.ref 24] w = p_ev scr 95 4 [.ref 24] [.int (w.1 24 4)] w) ∧
  (∀ (scr : pX) (w : pW) (s0 : Int32), p_ev scr 95 4 [.ref 24] [.int s0] w = some (.inl (some (.int s0)), w, 0)) :=
  ⟨fun _ _ => p_r (by decide +kernel : p_at 95 0 = some (.aload_n 0)) rfl,
  fun _ _ => p_rgf (f := none) (by decide +kernel : p_at 95 1 = some (.getfield 63)) (by decide +kernel : p_fld (p_own 95) 63 = some (5, 4)) (rfl : p_ob 24 = some (.inr (5, [some 25, some 26, none, none, none, some 27, some 28, some 29, some 30, some 31, some 32, some 33, some 34, some 35, some 36, some 37, some 38, some 39, none, none, some 40]))) rfl,
  fun _ _ _ => p_riret (by decide +kernel : p_at 95 4 = some (.ireturn)) (by decide +kernel)⟩
-- 96: fails
theorem M96 :
  (∀ (scr : pX) (w : pW) (x1 : Int32), p_ev scr 96 0 [.ref 24, .int x1] [] w = p_ev scr 96 1 [.ref 24, .int x1] [.ref 24] w) ∧
  (∀ (scr : pX) (w : pW) (x1 : Int32), p_ev scr 96 1 [.ref 24, .int x1] [.ref 24] w = p_ev scr 96 2 [.ref 24, .int x1] [.int x1, .ref 24] w) ∧
  (∀ (scr : pX) (w : pW) (x1 : Int32) (s0 : Int32), p_ev scr 96 2 [.ref 24, .int x1] [.int s0, .ref 24] w = p_ev scr 96 5 [.ref 24, .int x1] [] (p_u w.1 24 4 s0, w.2)) ∧
  (∀ (scr : pX) (w : pW) (x1 : Int32), p_ev scr 96 5 [.ref 24, .int x1] [] w = p_ev scr 96 6 [.ref 24, .int x1] [.int (nI 0)] w) ∧
  (∀ (scr : pX) (w : pW) (x1 : Int32) (s0 : Int32), p_ev scr 96 6 [.ref 24, .int x1] [.int s0] w = some (.inl (some (.int s0)), w, 0)) :=
  ⟨fun _ _ _ => p_r (by decide +kernel : p_at 96 0 = some (.aload_n 0)) rfl,
  fun _ _ _ => p_r (by decide +kernel : p_at 96 1 = some (.iload_n 1)) rfl,
  fun _ _ _ _ => p_rpf (by decide +kernel : p_at 96 2 = some (.putfield 63)) (by decide +kernel : p_fld (p_own 96) 63 = some (5, 4)) (rfl : p_ob 24 = some (.inr (5, [some 25, some 26, none, none, none, some 27, some 28, some 29, some 30, some 31, some 32, some 33, some 34, some 35, some 36, some 37, some 38, some 39, none, none, some 40]))) rfl,
  fun _ _ _ => p_r (by decide +kernel : p_at 96 5 = some (.iconst 0)) rfl,
  fun _ _ _ _ => p_riret (by decide +kernel : p_at 96 6 = some (.ireturn)) (by decide +kernel)⟩
-- 97: in
theorem M97 :
  (∀ (scr : pX) (w : pW) (x0 : Int32) (x1 : Int32) (x2 : Int32), p_ev scr 97 0 [.int x0, .int x1, .int x2] [] w = p_ev scr 97 1 [.int x0, .int x1, .int x2] [.int x0] w) ∧
  (∀ (scr : pX) (w : pW) (x0 : Int32) (x1 : Int32) (x2 : Int32) (s0 : Int32), p_ev scr 97 1 [.int x0, .int x1, .int x2] [.int s0] w = p_ev scr 97 2 [.int x0, .int x1, .int x2] [.int x1, .int s0] w) ∧
  (∀ (scr : pX) (w : pW) (x0 : Int32) (x1 : Int32) (x2 : Int32) (s0 : Int32) (s1 : Int32), p_ev scr 97 2 [.int x0, .int x1, .int x2] [.int s0, .int s1] w = if s1 < s0 then p_ev scr 97 14 [.int x0, .int x1, .int x2] [] w else p_ev scr 97 5 [.int x0, .int x1, .int x2] [] w) ∧
  (∀ (scr : pX) (w : pW) (x0 : Int32) (x1 : Int32) (x2 : Int32), p_ev scr 97 5 [.int x0, .int x1, .int x2] [] w = p_ev scr 97 6 [.int x0, .int x1, .int x2] [.int x0] w) ∧
  (∀ (scr : pX) (w : pW) (x0 : Int32) (x1 : Int32) (x2 : Int32) (s0 : Int32), p_ev scr 97 6 [.int x0, .int x1, .int x2] [.int s0] w = p_ev scr 97 7 [.int x0, .int x1, .int x2] [.int x2, .int s0] w) ∧
  (∀ (scr : pX) (w : pW) (x0 : Int32) (x1 : Int32) (x2 : Int32) (s0 : Int32) (s1 : Int32), p_ev scr 97 7 [.int x0, .int x1, .int x2] [.int s0, .int s1] w = if s0 < s1 then p_ev scr 97 14 [.int x0, .int x1, .int x2] [] w else p_ev scr 97 10 [.int x0, .int x1, .int x2] [] w) ∧
  (∀ (scr : pX) (w : pW) (x0 : Int32) (x1 : Int32) (x2 : Int32), p_ev scr 97 10 [.int x0, .int x1, .int x2] [] w = p_ev scr 97 11 [.int x0, .int x1, .int x2] [.int (nI 1)] w) ∧
  (∀ (scr : pX) (w : pW) (x0 : Int32) (x1 : Int32) (x2 : Int32) (s0 : Int32), p_ev scr 97 11 [.int x0, .int x1, .int x2] [.int s0] w = p_ev scr 97 15 [.int x0, .int x1, .int x2] [.int s0] w) ∧
  (∀ (scr : pX) (w : pW) (x0 : Int32) (x1 : Int32) (x2 : Int32), p_ev scr 97 14 [.int x0, .int x1, .int x2] [] w = p_ev scr 97 15 [.int x0, .int x1, .int x2] [.int (nI 0)] w) ∧
  (∀ (scr : pX) (w : pW) (x0 : Int32) (x1 : Int32) (x2 : Int32) (s0 : Int32), narrow .boolean (.int s0) = .int s0 → p_ev scr 97 15 [.int x0, .int x1, .int x2] [.int s0] w = some (.inl (some (.int s0)), w, 0)) :=
  ⟨fun _ _ _ _ _ => p_r (by decide +kernel : p_at 97 0 = some (.iload_n 0)) rfl,
  fun _ _ _ _ _ _ => p_r (by decide +kernel : p_at 97 1 = some (.iload_n 1)) rfl,
  fun _ _ _ _ _ _ _ => p_rb2 (c := fun x y => decide (x < y)) (off := 12) (by decide +kernel : p_at 97 2 = some (.if_icmp .lt 12)) (by decide +kernel) rfl rfl rfl,
  fun _ _ _ _ _ => p_r (by decide +kernel : p_at 97 5 = some (.iload_n 0)) rfl,
  fun _ _ _ _ _ _ => p_r (by decide +kernel : p_at 97 6 = some (.iload_n 2)) rfl,
  fun _ _ _ _ _ _ _ => p_rb2 (c := fun x y => decide (y < x)) (off := 7) (by decide +kernel : p_at 97 7 = some (.if_icmp .gt 7)) (by decide +kernel) rfl rfl rfl,
  fun _ _ _ _ _ => p_r (by decide +kernel : p_at 97 10 = some (.iconst 1)) rfl,
  fun _ _ _ _ _ _ => p_rgo (by decide +kernel : p_at 97 11 = some (.goto 4)) (by decide +kernel),
  fun _ _ _ _ _ => p_r (by decide +kernel : p_at 97 14 = some (.iconst 0)) rfl,
  fun _ _ _ _ _ _ hp => p_rzret (by decide +kernel : p_at 97 15 = some (.ireturn)) (by decide +kernel) hp⟩
-- 98: size
theorem M98 :
  (∀ (scr : pX) (w : pW) (y0 : Int64), p_ev scr 98 0 [.long y0, p_U] [] w = p_ev scr 98 1 [.long y0, p_U] [.long y0] w) ∧
  (∀ (scr : pX) (w : pW) (y0 : Int64) (t0 : Int64), p_ev scr 98 1 [.long y0, p_U] [.long t0] w = p_ev scr 98 2 [.long y0, p_U] [.long (lN 0), .long t0] w) ∧
  (∀ (scr : pX) (w : pW) (y0 : Int64) (t0 : Int64) (t1 : Int64), p_ev scr 98 2 [.long y0, p_U] [.long t0, .long t1] w = p_ev scr 98 3 [.long y0, p_U] [.int (lg_cmp t1 t0)] w) ∧
  (∀ (scr : pX) (w : pW) (y0 : Int64) (s0 : Int32), p_ev scr 98 3 [.long y0, p_U] [.int s0] w = if nI 0 ≤ s0 then p_ev scr 98 11 [.long y0, p_U] [] w else p_ev scr 98 6 [.long y0, p_U] [] w) ∧
  (∀ (scr : pX) (w : pW) (y0 : Int64), p_ev scr 98 6 [.long y0, p_U] [] w = p_ev scr 98 7 [.long y0, p_U] [.long y0] w) ∧
  (∀ (scr : pX) (w : pW) (y0 : Int64) (t0 : Int64), p_ev scr 98 7 [.long y0, p_U] [.long t0] w = p_ev scr 98 8 [.long y0, p_U] [.long (-t0)] w) ∧
  (∀ (scr : pX) (w : pW) (y0 : Int64) (t0 : Int64), p_ev scr 98 8 [.long y0, p_U] [.long t0] w = p_ev scr 98 12 [.long y0, p_U] [.long t0] w) ∧
  (∀ (scr : pX) (w : pW) (y0 : Int64), p_ev scr 98 11 [.long y0, p_U] [] w = p_ev scr 98 12 [.long y0, p_U] [.long y0] w) ∧
  (∀ (scr : pX) (w : pW) (y0 : Int64) (t0 : Int64), p_ev scr 98 12 [.long y0, p_U] [.long t0] w = some (.inl (some (.long t0)), w, 0)) :=
  ⟨fun _ _ _ => p_r (by decide +kernel : p_at 98 0 = some (.lload_n 0)) rfl,
  fun _ _ _ _ => p_r (by decide +kernel : p_at 98 1 = some (.lconst 0)) rfl,
  fun _ _ _ _ _ => p_r (by decide +kernel : p_at 98 2 = some (.lcmp)) rfl,
  fun _ _ _ _ => p_rb1 (c := fun x => decide (0 ≤ x)) (off := 8) (by decide +kernel : p_at 98 3 = some (.ifCond .ge 8)) (by decide +kernel) rfl rfl rfl,
  fun _ _ _ => p_r (by decide +kernel : p_at 98 6 = some (.lload_n 0)) rfl,
  fun _ _ _ _ => p_r (by decide +kernel : p_at 98 7 = some (.lneg)) rfl,
  fun _ _ _ _ => p_rgo (by decide +kernel : p_at 98 8 = some (.goto 4)) (by decide +kernel),
  fun _ _ _ => p_r (by decide +kernel : p_at 98 11 = some (.lload_n 0)) rfl,
  fun _ _ _ _ => p_rlret (by decide +kernel : p_at 98 12 = some (.lreturn)) (by decide +kernel)⟩
-- 99: floor
theorem M99 :
  (∀ (scr : pX) (w : pW) (y0 : Int64) (y2 : Int64), p_ev scr 99 0 [.long y0, p_U, .long y2, p_U] [] w = p_ev scr 99 1 [.long y0, p_U, .long y2, p_U] [.long y0] w) ∧
  (∀ (scr : pX) (w : pW) (y0 : Int64) (y2 : Int64) (t0 : Int64), p_ev scr 99 1 [.long y0, p_U, .long y2, p_U] [.long t0] w = p_ev scr 99 2 [.long y0, p_U, .long y2, p_U] [.long (lN 0), .long t0] w) ∧
  (∀ (scr : pX) (w : pW) (y0 : Int64) (y2 : Int64) (t0 : Int64) (t1 : Int64), p_ev scr 99 2 [.long y0, p_U, .long y2, p_U] [.long t0, .long t1] w = p_ev scr 99 3 [.long y0, p_U, .long y2, p_U] [.int (lg_cmp t1 t0)] w) ∧
  (∀ (scr : pX) (w : pW) (y0 : Int64) (y2 : Int64) (s0 : Int32), p_ev scr 99 3 [.long y0, p_U, .long y2, p_U] [.int s0] w = if nI 0 ≤ s0 then p_ev scr 99 22 [.long y0, p_U, .long y2, p_U] [] w else p_ev scr 99 6 [.long y0, p_U, .long y2, p_U] [] w) ∧
  (∀ (scr : pX) (w : pW) (y0 : Int64) (y2 : Int64), p_ev scr 99 6 [.long y0, p_U, .long y2, p_U] [] w = p_ev scr 99 7 [.long y0, p_U, .long y2, p_U] [.long y0] w) ∧
  (∀ (scr : pX) (w : pW) (y0 : Int64) (y2 : Int64) (t0 : Int64), p_ev scr 99 7 [.long y0, p_U, .long y2, p_U] [.long t0] w = p_ev scr 99 8 [.long y0, p_U, .long y2, p_U] [.long y2, .long t0] w) ∧
  (∀ (scr : pX) (w : pW) (y0 : Int64) (y2 : Int64) (t0 : Int64) (t1 : Int64), ¬ t0 = 0 → p_ev scr 99 8 [.long y0, p_U, .long y2, p_U] [.long t0, .long t1] w = p_ev scr 99 9 [.long y0, p_U, .long y2, p_U] [.long (t1 - t1 / t0 * t0)] w) ∧
  (∀ (scr : pX) (w : pW) (y0 : Int64) (y2 : Int64) (t0 : Int64), p_ev scr 99 9 [.long y0, p_U, .long y2, p_U] [.long t0] w = p_ev scr 99 10 [.long y0, p_U, .long y2, p_U] [.long (lN 0), .long t0] w) ∧
  (∀ (scr : pX) (w : pW) (y0 : Int64) (y2 : Int64) (t0 : Int64) (t1 : Int64), p_ev scr 99 10 [.long y0, p_U, .long y2, p_U] [.long t0, .long t1] w = p_ev scr 99 11 [.long y0, p_U, .long y2, p_U] [.int (lg_cmp t1 t0)] w) ∧
  (∀ (scr : pX) (w : pW) (y0 : Int64) (y2 : Int64) (s0 : Int32), p_ev scr 99 11 [.long y0, p_U, .long y2, p_U] [.int s0] w = if s0 = nI 0 then p_ev scr 99 22 [.long y0, p_U, .long y2, p_U] [] w else p_ev scr 99 14 [.long y0, p_U, .long y2, p_U] [] w) ∧
  (∀ (scr : pX) (w : pW) (y0 : Int64) (y2 : Int64), p_ev scr 99 14 [.long y0, p_U, .long y2, p_U] [] w = p_ev scr 99 15 [.long y0, p_U, .long y2, p_U] [.long y0] w) ∧
  (∀ (scr : pX) (w : pW) (y0 : Int64) (y2 : Int64) (t0 : Int64), p_ev scr 99 15 [.long y0, p_U, .long y2, p_U] [.long t0] w = p_ev scr 99 16 [.long y0, p_U, .long y2, p_U] [.long y2, .long t0] w) ∧
  (∀ (scr : pX) (w : pW) (y0 : Int64) (y2 : Int64) (t0 : Int64) (t1 : Int64), ¬ t0 = 0 → p_ev scr 99 16 [.long y0, p_U, .long y2, p_U] [.long t0, .long t1] w = p_ev scr 99 17 [.long y0, p_U, .long y2, p_U] [.long (t1 / t0)] w) ∧
  (∀ (scr : pX) (w : pW) (y0 : Int64) (y2 : Int64) (t0 : Int64), p_ev scr 99 17 [.long y0, p_U, .long y2, p_U] [.long t0] w = p_ev scr 99 18 [.long y0, p_U, .long y2, p_U] [.long (lN 1), .long t0] w) ∧
  (∀ (scr : pX) (w : pW) (y0 : Int64) (y2 : Int64) (t0 : Int64) (t1 : Int64), p_ev scr 99 18 [.long y0, p_U, .long y2, p_U] [.long t0, .long t1] w = p_ev scr 99 19 [.long y0, p_U, .long y2, p_U] [.long (t1 - t0)] w) ∧
  (∀ (scr : pX) (w : pW) (y0 : Int64) (y2 : Int64) (t0 : Int64), p_ev scr 99 19 [.long y0, p_U, .long y2, p_U] [.long t0] w = p_ev scr 99 25 [.long y0, p_U, .long y2, p_U] [.long t0] w) ∧
  (∀ (scr : pX) (w : pW) (y0 : Int64) (y2 : Int64), p_ev scr 99 22 [.long y0, p_U, .long y2, p_U] [] w = p_ev scr 99 23 [.long y0, p_U, .long y2, p_U] [.long y0] w) ∧
  (∀ (scr : pX) (w : pW) (y0 : Int64) (y2 : Int64) (t0 : Int64), p_ev scr 99 23 [.long y0, p_U, .long y2, p_U] [.long t0] w = p_ev scr 99 24 [.long y0, p_U, .long y2, p_U] [.long y2, .long t0] w) ∧
  (∀ (scr : pX) (w : pW) (y0 : Int64) (y2 : Int64) (t0 : Int64) (t1 : Int64), ¬ t0 = 0 → p_ev scr 99 24 [.long y0, p_U, .long y2, p_U] [.long t0, .long t1] w = p_ev scr 99 25 [.long y0, p_U, .long y2, p_U] [.long (t1 / t0)] w) ∧
  (∀ (scr : pX) (w : pW) (y0 : Int64) (y2 : Int64) (t0 : Int64), p_ev scr 99 25 [.long y0, p_U, .long y2, p_U] [.long t0] w = some (.inl (some (.long t0)), w, 0)) :=
  ⟨fun _ _ _ _ => p_r (by decide +kernel : p_at 99 0 = some (.lload_n 0)) rfl,
  fun _ _ _ _ _ => p_r (by decide +kernel : p_at 99 1 = some (.lconst 0)) rfl,
  fun _ _ _ _ _ _ => p_r (by decide +kernel : p_at 99 2 = some (.lcmp)) rfl,
  fun _ _ _ _ _ => p_rb1 (c := fun x => decide (0 ≤ x)) (off := 19) (by decide +kernel : p_at 99 3 = some (.ifCond .ge 19)) (by decide +kernel) rfl rfl rfl,
  fun _ _ _ _ => p_r (by decide +kernel : p_at 99 6 = some (.lload_n 0)) rfl,
  fun _ _ _ _ _ => p_r (by decide +kernel : p_at 99 7 = some (.lload_n 2)) rfl,
  fun _ _ _ _ _ _ hp => p_rlrem (by decide +kernel : p_at 99 8 = some (.lrem)) hp,
  fun _ _ _ _ _ => p_r (by decide +kernel : p_at 99 9 = some (.lconst 0)) rfl,
  fun _ _ _ _ _ _ => p_r (by decide +kernel : p_at 99 10 = some (.lcmp)) rfl,
  fun _ _ _ _ _ => p_rb1 (c := fun x => decide (x = 0)) (off := 11) (by decide +kernel : p_at 99 11 = some (.ifCond .eq 11)) (by decide +kernel) rfl rfl rfl,
  fun _ _ _ _ => p_r (by decide +kernel : p_at 99 14 = some (.lload_n 0)) rfl,
  fun _ _ _ _ _ => p_r (by decide +kernel : p_at 99 15 = some (.lload_n 2)) rfl,
  fun _ _ _ _ _ _ hp => p_rldiv (by decide +kernel : p_at 99 16 = some (.ldiv)) hp,
  fun _ _ _ _ _ => p_r (by decide +kernel : p_at 99 17 = some (.lconst 1)) rfl,
  fun _ _ _ _ _ _ => p_r (by decide +kernel : p_at 99 18 = some (.lsub)) rfl,
  fun _ _ _ _ _ => p_rgo (by decide +kernel : p_at 99 19 = some (.goto 6)) (by decide +kernel),
  fun _ _ _ _ => p_r (by decide +kernel : p_at 99 22 = some (.lload_n 0)) rfl,
  fun _ _ _ _ _ => p_r (by decide +kernel : p_at 99 23 = some (.lload_n 2)) rfl,
  fun _ _ _ _ _ _ hp => p_rldiv (by decide +kernel : p_at 99 24 = some (.ldiv)) hp,
  fun _ _ _ _ _ => p_rlret (by decide +kernel : p_at 99 25 = some (.lreturn)) (by decide +kernel)⟩
-- 100: digitsOf
theorem M100 :
  (∀ (scr : pX) (w : pW) (y0 : Int64), p_ev scr 100 0 [.long y0, p_U, p_U, p_U, p_U] [] w = p_ev scr 100 1 [.long y0, p_U, p_U, p_U, p_U] [.int (nI 0)] w) ∧
  (∀ (scr : pX) (w : pW) (y0 : Int64) (s0 : Int32), p_ev scr 100 1 [.long y0, p_U, p_U, p_U, p_U] [.int s0] w = p_ev scr 100 2 [.long y0, p_U, .int s0, p_U, p_U] [] w) ∧
  (∀ (scr : pX) (w : pW) (y0 : Int64) (x2 : Int32), p_ev scr 100 2 [.long y0, p_U, .int x2, p_U, p_U] [] w = p_ev scr 100 3 [.long y0, p_U, .int x2, p_U, p_U] [.long y0] w) ∧
  (∀ (scr : pX) (w : pW) (y0 : Int64) (x2 : Int32) (t0 : Int64), p_ev scr 100 3 [.long y0, p_U, .int x2, p_U, p_U] [.long t0] w = p_bnd scr 100 3 6 [.long y0, p_U, .int x2, p_U, p_U] [] (p_ev none 98 0 [.long t0, p_U] [] w)) ∧
  (∀ (scr : pX) (w : pW) (y0 : Int64) (x2 : Int32) (t0 : Int64), p_ev scr 100 6 [.long y0, p_U, .int x2, p_U, p_U] [.long t0] w = p_ev scr 100 7 [.long y0, p_U, .int x2, .long t0, p_U] [] w) ∧
  (∀ (scr : pX) (w : pW) (y0 : Int64) (x2 : Int32) (y3 : Int64) (t0 : Int64), p_ev scr 100 8 [.long y0, p_U, .int x2, .long y3, p_U] [.long t0] w = p_ev scr 100 9 [.long y0, p_U, .int x2, .long y3, p_U] [.long (lN 0), .long t0] w) ∧
  (∀ (scr : pX) (w : pW) (y0 : Int64) (x2 : Int32) (y3 : Int64) (t0 : Int64) (t1 : Int64), p_ev scr 100 9 [.long y0, p_U, .int x2, .long y3, p_U] [.long t0, .long t1] w = p_ev scr 100 10 [.long y0, p_U, .int x2, .long y3, p_U] [.int (lg_cmp t1 t0)] w) ∧
  (∀ (scr : pX) (w : pW) (y0 : Int64) (x2 : Int32) (y3 : Int64) (s0 : Int32), p_ev scr 100 10 [.long y0, p_U, .int x2, .long y3, p_U] [.int s0] w = if s0 ≤ nI 0 then p_ev scr 100 25 [.long y0, p_U, .int x2, .long y3, p_U] [] w else p_ev scr 100 13 [.long y0, p_U, .int x2, .long y3, p_U] [] w) ∧
  (∀ (scr : pX) (w : pW) (y0 : Int64) (x2 : Int32) (y3 : Int64), p_ev scr 100 13 [.long y0, p_U, .int x2, .long y3, p_U] [] w = p_ev scr 100 16 [.long y0, p_U, .int (x2 + (nI 1)), .long y3, p_U] [] w) ∧
  (∀ (scr : pX) (w : pW) (y0 : Int64) (x2 : Int32) (y3 : Int64), p_ev scr 100 16 [.long y0, p_U, .int x2, .long y3, p_U] [] w = p_ev scr 100 17 [.long y0, p_U, .int x2, .long y3, p_U] [.long y3] w) ∧
  (∀ (scr : pX) (w : pW) (y0 : Int64) (x2 : Int32) (y3 : Int64) (t0 : Int64), p_ev scr 100 17 [.long y0, p_U, .int x2, .long y3, p_U] [.long t0] w = p_ev scr 100 20 [.long y0, p_U, .int x2, .long y3, p_U] [.long (lN 2), .long t0] w) ∧
  (∀ (scr : pX) (w : pW) (y0 : Int64) (x2 : Int32) (y3 : Int64) (t0 : Int64) (t1 : Int64), ¬ t0 = 0 → p_ev scr 100 20 [.long y0, p_U, .int x2, .long y3, p_U] [.long t0, .long t1] w = p_ev scr 100 21 [.long y0, p_U, .int x2, .long y3, p_U] [.long (t1 / t0)] w) ∧
  (∀ (scr : pX) (w : pW) (y0 : Int64) (x2 : Int32) (y3 : Int64) (t0 : Int64), p_ev scr 100 21 [.long y0, p_U, .int x2, .long y3, p_U] [.long t0] w = p_ev scr 100 22 [.long y0, p_U, .int x2, .long t0, p_U] [] w) ∧
  (∀ (scr : pX) (w : pW) (y0 : Int64) (x2 : Int32) (y3 : Int64), p_ev scr 100 22 [.long y0, p_U, .int x2, .long y3, p_U] [] w = p_ev scr 100 7 [.long y0, p_U, .int x2, .long y3, p_U] [] w) ∧
  (∀ (scr : pX) (w : pW) (y0 : Int64) (x2 : Int32) (y3 : Int64), p_ev scr 100 25 [.long y0, p_U, .int x2, .long y3, p_U] [] w = p_ev scr 100 26 [.long y0, p_U, .int x2, .long y3, p_U] [.int x2] w) ∧
  (∀ (scr : pX) (w : pW) (y0 : Int64) (x2 : Int32) (y3 : Int64) (s0 : Int32), p_ev scr 100 26 [.long y0, p_U, .int x2, .long y3, p_U] [.int s0] w = some (.inl (some (.int s0)), w, 0)) :=
  ⟨fun _ _ _ => p_r (by decide +kernel : p_at 100 0 = some (.iconst 0)) rfl,
  fun _ _ _ _ => p_r (by decide +kernel : p_at 100 1 = some (.istore_n 2)) rfl,
  fun _ _ _ _ => p_r (by decide +kernel : p_at 100 2 = some (.lload_n 0)) rfl,
  fun _ _ _ _ _ => p_rcs (nl := 2) (by decide +kernel : p_at 100 3 = some (.invokestatic 66)) (by decide +kernel : p_inv (p_own 100) 66 = some (1, 98, 1)) (by decide +kernel) rfl rfl (Nat.le_of_ble_eq_true rfl) (Nat.le_of_ble_eq_true rfl) (Nat.le_of_ble_eq_true rfl) rfl,
  fun _ _ _ _ _ => p_r (by decide +kernel : p_at 100 6 = some (.lstore_n 3)) rfl,
  fun _ _ _ _ _ _ => p_r (by decide +kernel : p_at 100 8 = some (.lconst 0)) rfl,
  fun _ _ _ _ _ _ _ => p_r (by decide +kernel : p_at 100 9 = some (.lcmp)) rfl,
  fun _ _ _ _ _ _ => p_rb1 (c := fun x => decide (x ≤ 0)) (off := 15) (by decide +kernel : p_at 100 10 = some (.ifCond .le 15)) (by decide +kernel) rfl rfl rfl,
  fun _ _ _ _ _ => p_r (by decide +kernel : p_at 100 13 = some (.iinc 2 1)) rfl,
  fun _ _ _ _ _ => p_r (by decide +kernel : p_at 100 16 = some (.lload_n 3)) rfl,
  fun _ _ _ _ _ _ => p_rldcJ (by decide +kernel : p_at 100 17 = some (.ldc2_w 70)) (by decide +kernel),
  fun _ _ _ _ _ _ _ hp => p_rldiv (by decide +kernel : p_at 100 20 = some (.ldiv)) hp,
  fun _ _ _ _ _ _ => p_r (by decide +kernel : p_at 100 21 = some (.lstore_n 3)) rfl,
  fun _ _ _ _ _ => p_rgo (by decide +kernel : p_at 100 22 = some (.goto (-15))) (by decide +kernel),
  fun _ _ _ _ _ => p_r (by decide +kernel : p_at 100 25 = some (.iload_n 2)) rfl,
  fun _ _ _ _ _ _ => p_riret (by decide +kernel : p_at 100 26 = some (.ireturn)) (by decide +kernel)⟩
theorem H100_7 :
  (∀ (scr : pX) (w : pW) (y0 : Int64) (x2 : Int32) (y3 : Int64), p_ev scr 100 7 [.long y0, p_U, .int x2, .long y3, p_U] [] w = p_ev scr 100 8 [.long y0, p_U, .int x2, .long y3, p_U] [.long y3] w) :=
  fun _ _ _ _ _ => p_r (by decide +kernel : p_at 100 7 = some (.lload_n 3)) rfl
-- 101: sizeAt
theorem M101 :
  (∀ (scr : pX) (w : pW) (x1 : Int32), p_ev scr 101 0 [.ref 24, .int x1, p_U, p_U] [] w = p_ev scr 101 1 [.ref 24, .int x1, p_U, p_U] [.ref 24] w) ∧
  (∀ (scr : pX) (w : pW) (x1 : Int32), p_ev scr 101 1 [.ref 24, .int x1, p_U, p_U] [.ref 24] w = p_ev scr 101 4 [.ref 24, .int x1, p_U, p_U] [.int (w.1 24 2)] w) ∧
  (∀ (scr : pX) (w : pW) (x1 : Int32) (s0 : Int32), p_ev scr 101 4 [.ref 24, .int x1, p_U, p_U] [.int s0] w = p_ev scr 101 5 [.ref 24, .int x1, .int s0, p_U] [] w) ∧
  (∀ (scr : pX) (w : pW) (x1 : Int32) (x2 : Int32), p_ev scr 101 5 [.ref 24, .int x1, .int x2, p_U] [] w = p_ev scr 101 6 [.ref 24, .int x1, .int x2, p_U] [.int x1] w) ∧
  (∀ (scr : pX) (w : pW) (x1 : Int32) (x2 : Int32) (s0 : Int32), p_ev scr 101 6 [.ref 24, .int x1, .int x2, p_U] [.int s0] w = p_ev scr 101 7 [.ref 24, .int x1, .int x2, .int s0] [] w) ∧
  (∀ (scr : pX) (w : pW) (x1 : Int32) (x2 : Int32) (x3 : Int32) (s0 : Int32), p_ev scr 101 8 [.ref 24, .int x1, .int x2, .int x3] [.int s0] w = p_ev scr 101 9 [.ref 24, .int x1, .int x2, .int x3] [.int (nI 1), .int s0] w) ∧
  (∀ (scr : pX) (w : pW) (x1 : Int32) (x2 : Int32) (x3 : Int32) (s0 : Int32) (s1 : Int32), p_ev scr 101 9 [.ref 24, .int x1, .int x2, .int x3] [.int s0, .int s1] w = if s1 ≤ s0 then p_ev scr 101 23 [.ref 24, .int x1, .int x2, .int x3] [] w else p_ev scr 101 12 [.ref 24, .int x1, .int x2, .int x3] [] w) ∧
  (∀ (scr : pX) (w : pW) (x1 : Int32) (x2 : Int32) (x3 : Int32), p_ev scr 101 12 [.ref 24, .int x1, .int x2, .int x3] [] w = p_ev scr 101 13 [.ref 24, .int x1, .int x2, .int x3] [.int x2] w) ∧
  (∀ (scr : pX) (w : pW) (x1 : Int32) (x2 : Int32) (x3 : Int32) (s0 : Int32), p_ev scr 101 13 [.ref 24, .int x1, .int x2, .int x3] [.int s0] w = p_ev scr 101 14 [.ref 24, .int x1, .int x2, .int x3] [.int (nI 2), .int s0] w) ∧
  (∀ (scr : pX) (w : pW) (x1 : Int32) (x2 : Int32) (x3 : Int32) (s0 : Int32) (s1 : Int32), ¬ s0 = 0 → p_ev scr 101 14 [.ref 24, .int x1, .int x2, .int x3] [.int s0, .int s1] w = p_ev scr 101 15 [.ref 24, .int x1, .int x2, .int x3] [.int (s1 / s0)] w) ∧
  (∀ (scr : pX) (w : pW) (x1 : Int32) (x2 : Int32) (x3 : Int32) (s0 : Int32), p_ev scr 101 15 [.ref 24, .int x1, .int x2, .int x3] [.int s0] w = p_ev scr 101 16 [.ref 24, .int x1, .int s0, .int x3] [] w) ∧
  (∀ (scr : pX) (w : pW) (x1 : Int32) (x2 : Int32) (x3 : Int32), p_ev scr 101 16 [.ref 24, .int x1, .int x2, .int x3] [] w = p_ev scr 101 17 [.ref 24, .int x1, .int x2, .int x3] [.int x3] w) ∧
  (∀ (scr : pX) (w : pW) (x1 : Int32) (x2 : Int32) (x3 : Int32) (s0 : Int32), p_ev scr 101 17 [.ref 24, .int x1, .int x2, .int x3] [.int s0] w = p_ev scr 101 18 [.ref 24, .int x1, .int x2, .int x3] [.int (nI 2), .int s0] w) ∧
  (∀ (scr : pX) (w : pW) (x1 : Int32) (x2 : Int32) (x3 : Int32) (s0 : Int32) (s1 : Int32), ¬ s0 = 0 → p_ev scr 101 18 [.ref 24, .int x1, .int x2, .int x3] [.int s0, .int s1] w = p_ev scr 101 19 [.ref 24, .int x1, .int x2, .int x3] [.int (s1 / s0)] w) ∧
  (∀ (scr : pX) (w : pW) (x1 : Int32) (x2 : Int32) (x3 : Int32) (s0 : Int32), p_ev scr 101 19 [.ref 24, .int x1, .int x2, .int x3] [.int s0] w = p_ev scr 101 20 [.ref 24, .int x1, .int x2, .int s0] [] w) ∧
  (∀ (scr : pX) (w : pW) (x1 : Int32) (x2 : Int32) (x3 : Int32), p_ev scr 101 20 [.ref 24, .int x1, .int x2, .int x3] [] w = p_ev scr 101 7 [.ref 24, .int x1, .int x2, .int x3] [] w) ∧
  (∀ (scr : pX) (w : pW) (x1 : Int32) (x2 : Int32) (x3 : Int32), p_ev scr 101 23 [.ref 24, .int x1, .int x2, .int x3] [] w = p_ev scr 101 24 [.ref 24, .int x1, .int x2, .int x3] [.int x2] w) ∧
  (∀ (scr : pX) (w : pW) (x1 : Int32) (x2 : Int32) (x3 : Int32) (s0 : Int32), p_ev scr 101 24 [.ref 24, .int x1, .int x2, .int x3] [.int s0] w = some (.inl (some (.int s0)), w, 0)) :=
  ⟨fun _ _ _ => p_r (by decide +kernel : p_at 101 0 = some (.aload_n 0)) rfl,
  fun _ _ _ => p_rgf (f := none) (by decide +kernel : p_at 101 1 = some (.getfield 17)) (by decide +kernel : p_fld (p_own 101) 17 = some (5, 2)) (rfl : p_ob 24 = some (.inr (5, [some 25, some 26, none, none, none, some 27, some 28, some 29, some 30, some 31, some 32, some 33, some 34, some 35, some 36, some 37, some 38, some 39, none, none, some 40]))) rfl,
  fun _ _ _ _ => p_r (by decide +kernel : p_at 101 4 = some (.istore_n 2)) rfl,
  fun _ _ _ _ => p_r (by decide +kernel : p_at 101 5 = some (.iload_n 1)) rfl,
  fun _ _ _ _ _ => p_r (by decide +kernel : p_at 101 6 = some (.istore_n 3)) rfl,
  fun _ _ _ _ _ _ => p_r (by decide +kernel : p_at 101 8 = some (.iconst 1)) rfl,
  fun _ _ _ _ _ _ _ => p_rb2 (c := fun x y => decide (x ≤ y)) (off := 14) (by decide +kernel : p_at 101 9 = some (.if_icmp .le 14)) (by decide +kernel) rfl rfl rfl,
  fun _ _ _ _ _ => p_r (by decide +kernel : p_at 101 12 = some (.iload_n 2)) rfl,
  fun _ _ _ _ _ _ => p_r (by decide +kernel : p_at 101 13 = some (.iconst 2)) rfl,
  fun _ _ _ _ _ _ _ hp => p_ridiv (by decide +kernel : p_at 101 14 = some (.idiv)) hp,
  fun _ _ _ _ _ _ => p_r (by decide +kernel : p_at 101 15 = some (.istore_n 2)) rfl,
  fun _ _ _ _ _ => p_r (by decide +kernel : p_at 101 16 = some (.iload_n 3)) rfl,
  fun _ _ _ _ _ _ => p_r (by decide +kernel : p_at 101 17 = some (.iconst 2)) rfl,
  fun _ _ _ _ _ _ _ hp => p_ridiv (by decide +kernel : p_at 101 18 = some (.idiv)) hp,
  fun _ _ _ _ _ _ => p_r (by decide +kernel : p_at 101 19 = some (.istore_n 3)) rfl,
  fun _ _ _ _ _ => p_rgo (by decide +kernel : p_at 101 20 = some (.goto (-13))) (by decide +kernel),
  fun _ _ _ _ _ => p_r (by decide +kernel : p_at 101 23 = some (.iload_n 2)) rfl,
  fun _ _ _ _ _ _ => p_riret (by decide +kernel : p_at 101 24 = some (.ireturn)) (by decide +kernel)⟩
theorem H101_7 :
  (∀ (scr : pX) (w : pW) (x1 : Int32) (x2 : Int32) (x3 : Int32), p_ev scr 101 7 [.ref 24, .int x1, .int x2, .int x3] [] w = p_ev scr 101 8 [.ref 24, .int x1, .int x2, .int x3] [.int x3] w) :=
  fun _ _ _ _ _ => p_r (by decide +kernel : p_at 101 7 = some (.iload_n 3)) rfl
-- 102: has
theorem M102 :
  (∀ (scr : pX) (w : pW) (x1 : Int32), p_ev scr 102 0 [.ref 24, .int x1] [] w = p_ev scr 102 1 [.ref 24, .int x1] [.int x1] w) ∧
  (∀ (scr : pX) (w : pW) (x1 : Int32) (s0 : Int32), p_ev scr 102 1 [.ref 24, .int x1] [.int s0] w = p_ev scr 102 2 [.ref 24, .int x1] [.int (nI 1), .int s0] w) ∧
  (∀ (scr : pX) (w : pW) (x1 : Int32) (s0 : Int32) (s1 : Int32), p_ev scr 102 2 [.ref 24, .int x1] [.int s0, .int s1] w = p_ev scr 102 4 [.ref 24, .int x1] [.int (nI 15), .int s0, .int s1] w) ∧
  (∀ (scr : pX) (w : pW) (x1 : Int32) (s0 : Int32) (s1 : Int32) (s2 : Int32), p_ev scr 102 4 [.ref 24, .int x1] [.int s0, .int s1, .int s2] w = p_bnd scr 102 4 7 [.ref 24, .int x1] [] (p_ev none 97 0 [.int s2, .int s1, .int s0] [] w)) ∧
  (∀ (scr : pX) (w : pW) (x1 : Int32) (s0 : Int32), p_ev scr 102 7 [.ref 24, .int x1] [.int s0] w = if s0 = nI 0 then p_ev scr 102 23 [.ref 24, .int x1] [] w else p_ev scr 102 10 [.ref 24, .int x1] [] w) ∧
  (∀ (scr : pX) (w : pW) (x1 : Int32), p_ev scr 102 10 [.ref 24, .int x1] [] w = p_ev scr 102 11 [.ref 24, .int x1] [.ref 24] w) ∧
  (∀ (scr : pX) (w : pW) (x1 : Int32), p_ev scr 102 11 [.ref 24, .int x1] [.ref 24] w = p_ev scr 102 14 [.ref 24, .int x1] [.ref 25] w) ∧
  (∀ (scr : pX) (w : pW) (x1 : Int32), p_ev scr 102 14 [.ref 24, .int x1] [.ref 25] w = p_ev scr 102 15 [.ref 24, .int x1] [.int x1, .ref 25] w) ∧
  (∀ (scr : pX) (w : pW) (x1 : Int32) (s0 : Int32), p_out s0 16 = false → p_ev scr 102 15 [.ref 24, .int x1] [.int s0, .ref 25] w = p_ev scr 102 16 [.ref 24, .int x1] [.int (w.2.2 25 s0.toNatClampNeg)] w) ∧
  (∀ (scr : pX) (w : pW) (x1 : Int32) (s0 : Int32), p_ev scr 102 16 [.ref 24, .int x1] [.int s0] w = if s0 = nI 0 then p_ev scr 102 23 [.ref 24, .int x1] [] w else p_ev scr 102 19 [.ref 24, .int x1] [] w) ∧
  (∀ (scr : pX) (w : pW) (x1 : Int32), p_ev scr 102 19 [.ref 24, .int x1] [] w = p_ev scr 102 20 [.ref 24, .int x1] [.int (nI 1)] w) ∧
  (∀ (scr : pX) (w : pW) (x1 : Int32) (s0 : Int32), p_ev scr 102 20 [.ref 24, .int x1] [.int s0] w = p_ev scr 102 24 [.ref 24, .int x1] [.int s0] w) ∧
  (∀ (scr : pX) (w : pW) (x1 : Int32), p_ev scr 102 23 [.ref 24, .int x1] [] w = p_ev scr 102 24 [.ref 24, .int x1] [.int (nI 0)] w) ∧
  (∀ (scr : pX) (w : pW) (x1 : Int32) (s0 : Int32), narrow .boolean (.int s0) = .int s0 → p_ev scr 102 24 [.ref 24, .int x1] [.int s0] w = some (.inl (some (.int s0)), w, 0)) :=
  ⟨fun _ _ _ => p_r (by decide +kernel : p_at 102 0 = some (.iload_n 1)) rfl,
  fun _ _ _ _ => p_r (by decide +kernel : p_at 102 1 = some (.iconst 1)) rfl,
  fun _ _ _ _ _ => p_r (by decide +kernel : p_at 102 2 = some (.bipush 15)) rfl,
  fun _ _ _ _ _ _ => p_rcs (nl := 3) (by decide +kernel : p_at 102 4 = some (.invokestatic 72)) (by decide +kernel : p_inv (p_own 102) 72 = some (1, 97, 3)) (by decide +kernel) rfl rfl (Nat.le_of_ble_eq_true rfl) (Nat.le_of_ble_eq_true rfl) (Nat.le_of_ble_eq_true rfl) rfl,
  fun _ _ _ _ => p_rb1 (c := fun x => decide (x = 0)) (off := 16) (by decide +kernel : p_at 102 7 = some (.ifCond .eq 16)) (by decide +kernel) rfl rfl rfl,
  fun _ _ _ => p_r (by decide +kernel : p_at 102 10 = some (.aload_n 0)) rfl,
  fun _ _ _ => p_rgf (f := some 25) (by decide +kernel : p_at 102 11 = some (.getfield 7)) (by decide +kernel : p_fld (p_own 102) 7 = some (5, 0)) (rfl : p_ob 24 = some (.inr (5, [some 25, some 26, none, none, none, some 27, some 28, some 29, some 30, some 31, some 32, some 33, some 34, some 35, some 36, some 37, some 38, some 39, none, none, some 40]))) rfl,
  fun _ _ _ => p_r (by decide +kernel : p_at 102 14 = some (.iload_n 1)) rfl,
  fun _ _ _ _ hp => p_riald (by decide +kernel : p_at 102 15 = some (.iaload)) (rfl : p_ob 25 = some (.inl (1, 16))) hp,
  fun _ _ _ _ => p_rb1 (c := fun x => decide (x = 0)) (off := 7) (by decide +kernel : p_at 102 16 = some (.ifCond .eq 7)) (by decide +kernel) rfl rfl rfl,
  fun _ _ _ => p_r (by decide +kernel : p_at 102 19 = some (.iconst 1)) rfl,
  fun _ _ _ _ => p_rgo (by decide +kernel : p_at 102 20 = some (.goto 4)) (by decide +kernel),
  fun _ _ _ => p_r (by decide +kernel : p_at 102 23 = some (.iconst 0)) rfl,
  fun _ _ _ _ hp => p_rzret (by decide +kernel : p_at 102 24 = some (.ireturn)) (by decide +kernel) hp⟩
-- 103: begin
theorem M103 :
  (∀ (scr : pX) (w : pW) (x1 : Int32), p_ev scr 103 0 [.ref 24, .int x1, p_U, p_U] [] w = p_ev scr 103 1 [.ref 24, .int x1, p_U, p_U] [.ref 24] w) ∧
  (∀ (scr : pX) (w : pW) (x1 : Int32), p_ev scr 103 1 [.ref 24, .int x1, p_U, p_U] [.ref 24] w = p_ev scr 103 2 [.ref 24, .int x1, p_U, p_U] [.int (nI 0), .ref 24] w) ∧
  (∀ (scr : pX) (w : pW) (x1 : Int32) (s0 : Int32), p_ev scr 103 2 [.ref 24, .int x1, p_U, p_U] [.int s0, .ref 24] w = p_ev scr 103 5 [.ref 24, .int x1, p_U, p_U] [] (p_u w.1 24 4 s0, w.2)) ∧
  (∀ (scr : pX) (w : pW) (x1 : Int32), p_ev scr 103 5 [.ref 24, .int x1, p_U, p_U] [] w = p_ev scr 103 6 [.ref 24, .int x1, p_U, p_U] [.int x1] w) ∧
  (∀ (scr : pX) (w : pW) (x1 : Int32) (s0 : Int32), p_ev scr 103 6 [.ref 24, .int x1, p_U, p_U] [.int s0] w = p_ev scr 103 7 [.ref 24, .int x1, p_U, p_U] [.int (nI 4), .int s0] w) ∧
  (∀ (scr : pX) (w : pW) (x1 : Int32) (s0 : Int32) (s1 : Int32), p_ev scr 103 7 [.ref 24, .int x1, p_U, p_U] [.int s0, .int s1] w = if s1 = s0 then p_ev scr 103 34 [.ref 24, .int x1, p_U, p_U] [] w else p_ev scr 103 10 [.ref 24, .int x1, p_U, p_U] [] w) ∧
  (∀ (scr : pX) (w : pW) (x1 : Int32), p_ev scr 103 10 [.ref 24, .int x1, p_U, p_U] [] w = p_ev scr 103 11 [.ref 24, .int x1, p_U, p_U] [.int x1] w) ∧
  (∀ (scr : pX) (w : pW) (x1 : Int32) (s0 : Int32), p_ev scr 103 11 [.ref 24, .int x1, p_U, p_U] [.int s0] w = p_ev scr 103 13 [.ref 24, .int x1, p_U, p_U] [.int (nI 8), .int s0] w) ∧
  (∀ (scr : pX) (w : pW) (x1 : Int32) (s0 : Int32) (s1 : Int32), p_ev scr 103 13 [.ref 24, .int x1, p_U, p_U] [.int s0, .int s1] w = if s1 = s0 then p_ev scr 103 34 [.ref 24, .int x1, p_U, p_U] [] w else p_ev scr 103 16 [.ref 24, .int x1, p_U, p_U] [] w) ∧
  (∀ (scr : pX) (w : pW) (x1 : Int32), p_ev scr 103 16 [.ref 24, .int x1, p_U, p_U] [] w = p_ev scr 103 17 [.ref 24, .int x1, p_U, p_U] [.int x1] w) ∧
  (∀ (scr : pX) (w : pW) (x1 : Int32) (s0 : Int32), p_ev scr 103 17 [.ref 24, .int x1, p_U, p_U] [.int s0] w = p_ev scr 103 19 [.ref 24, .int x1, p_U, p_U] [.int (nI 16), .int s0] w) ∧
  (∀ (scr : pX) (w : pW) (x1 : Int32) (s0 : Int32) (s1 : Int32), p_ev scr 103 19 [.ref 24, .int x1, p_U, p_U] [.int s0, .int s1] w = if s1 = s0 then p_ev scr 103 34 [.ref 24, .int x1, p_U, p_U] [] w else p_ev scr 103 22 [.ref 24, .int x1, p_U, p_U] [] w) ∧
  (∀ (scr : pX) (w : pW) (x1 : Int32), p_ev scr 103 22 [.ref 24, .int x1, p_U, p_U] [] w = p_ev scr 103 23 [.ref 24, .int x1, p_U, p_U] [.int x1] w) ∧
  (∀ (scr : pX) (w : pW) (x1 : Int32) (s0 : Int32), p_ev scr 103 23 [.ref 24, .int x1, p_U, p_U] [.int s0] w = p_ev scr 103 25 [.ref 24, .int x1, p_U, p_U] [.int (nI 32), .int s0] w) ∧
  (∀ (scr : pX) (w : pW) (x1 : Int32) (s0 : Int32) (s1 : Int32), p_ev scr 103 25 [.ref 24, .int x1, p_U, p_U] [.int s0, .int s1] w = if s1 = s0 then p_ev scr 103 34 [.ref 24, .int x1, p_U, p_U] [] w else p_ev scr 103 28 [.ref 24, .int x1, p_U, p_U] [] w) ∧
  (∀ (scr : pX) (w : pW) (x1 : Int32), p_ev scr 103 28 [.ref 24, .int x1, p_U, p_U] [] w = p_ev scr 103 29 [.ref 24, .int x1, p_U, p_U] [.ref 24] w) ∧
  (∀ (scr : pX) (w : pW) (x1 : Int32), p_ev scr 103 29 [.ref 24, .int x1, p_U, p_U] [.ref 24] w = p_ev scr 103 30 [.ref 24, .int x1, p_U, p_U] [.int (nI 1), .ref 24] w) ∧
  (∀ (scr : pX) (w : pW) (x1 : Int32) (s0 : Int32), p_ev scr 103 30 [.ref 24, .int x1, p_U, p_U] [.int s0, .ref 24] w = p_bnd scr 103 30 33 [.ref 24, .int x1, p_U, p_U] [] (p_ev none 96 0 [.ref 24, .int s0] [] w)) ∧
  (∀ (scr : pX) (w : pW) (x1 : Int32) (s0 : Int32), p_ev scr 103 33 [.ref 24, .int x1, p_U, p_U] [.int s0] w = some (.inl (some (.int s0)), w, 0)) ∧
  (∀ (scr : pX) (w : pW) (x1 : Int32), p_ev scr 103 34 [.ref 24, .int x1, p_U, p_U] [] w = p_ev scr 103 35 [.ref 24, .int x1, p_U, p_U] [.ref 24] w) ∧
  (∀ (scr : pX) (w : pW) (x1 : Int32), p_ev scr 103 35 [.ref 24, .int x1, p_U, p_U] [.ref 24] w = p_ev scr 103 38 [.ref 24, .int x1, p_U, p_U] [.int (w.1 24 2)] w) ∧
  (∀ (scr : pX) (w : pW) (x1 : Int32) (s0 : Int32), p_ev scr 103 38 [.ref 24, .int x1, p_U, p_U] [.int s0] w = p_ev scr 103 39 [.ref 24, .int x1, .int s0, p_U] [] w) ∧
  (∀ (scr : pX) (w : pW) (x1 : Int32) (x2 : Int32), p_ev scr 103 39 [.ref 24, .int x1, .int x2, p_U] [] w = p_ev scr 103 40 [.ref 24, .int x1, .int x2, p_U] [.ref 24] w) ∧
  (∀ (scr : pX) (w : pW) (x1 : Int32) (x2 : Int32), p_ev scr 103 40 [.ref 24, .int x1, .int x2, p_U] [.ref 24] w = p_ev scr 103 41 [.ref 24, .int x1, .int x2, p_U] [.int x1, .ref 24] w) ∧
  (∀ (scr : pX) (w : pW) (x1 : Int32) (x2 : Int32) (s0 : Int32), p_ev scr 103 41 [.ref 24, .int x1, .int x2, p_U] [.int s0, .ref 24] w = p_ev scr 103 44 [.ref 24, .int x1, .int x2, p_U] [] (p_u w.1 24 2 s0, w.2)) ∧
  (∀ (scr : pX) (w : pW) (x1 : Int32) (x2 : Int32), p_ev scr 103 44 [.ref 24, .int x1, .int x2, p_U] [] w = p_ev scr 103 45 [.ref 24, .int x1, .int x2, p_U] [.int (nI 0)] w) ∧
  (∀ (scr : pX) (w : pW) (x1 : Int32) (x2 : Int32) (s0 : Int32), p_ev scr 103 45 [.ref 24, .int x1, .int x2, p_U] [.int s0] w = p_ev scr 103 46 [.ref 24, .int x1, .int x2, .int s0] [] w) ∧
  (∀ (scr : pX) (w : pW) (x1 : Int32) (x2 : Int32) (x3 : Int32) (s0 : Int32), p_ev scr 103 47 [.ref 24, .int x1, .int x2, .int x3] [.int s0] w = p_ev scr 103 49 [.ref 24, .int x1, .int x2, .int x3] [.int (nI 16), .int s0] w) ∧
  (∀ (scr : pX) (w : pW) (x1 : Int32) (x2 : Int32) (x3 : Int32) (s0 : Int32) (s1 : Int32), p_ev scr 103 49 [.ref 24, .int x1, .int x2, .int x3] [.int s0, .int s1] w = if s0 ≤ s1 then p_ev scr 103 65 [.ref 24, .int x1, .int x2, .int x3] [] w else p_ev scr 103 52 [.ref 24, .int x1, .int x2, .int x3] [] w) ∧
  (∀ (scr : pX) (w : pW) (x1 : Int32) (x2 : Int32) (x3 : Int32), p_ev scr 103 52 [.ref 24, .int x1, .int x2, .int x3] [] w = p_ev scr 103 53 [.ref 24, .int x1, .int x2, .int x3] [.ref 24] w) ∧
  (∀ (scr : pX) (w : pW) (x1 : Int32) (x2 : Int32) (x3 : Int32), p_ev scr 103 53 [.ref 24, .int x1, .int x2, .int x3] [.ref 24] w = p_ev scr 103 56 [.ref 24, .int x1, .int x2, .int x3] [.ref 25] w) ∧
  (∀ (scr : pX) (w : pW) (x1 : Int32) (x2 : Int32) (x3 : Int32), p_ev scr 103 56 [.ref 24, .int x1, .int x2, .int x3] [.ref 25] w = p_ev scr 103 57 [.ref 24, .int x1, .int x2, .int x3] [.int x3, .ref 25] w) ∧
  (∀ (scr : pX) (w : pW) (x1 : Int32) (x2 : Int32) (x3 : Int32) (s0 : Int32), p_ev scr 103 57 [.ref 24, .int x1, .int x2, .int x3] [.int s0, .ref 25] w = p_ev scr 103 58 [.ref 24, .int x1, .int x2, .int x3] [.int (nI 0), .int s0, .ref 25] w) ∧
  (∀ (scr : pX) (w : pW) (x1 : Int32) (x2 : Int32) (x3 : Int32) (s0 : Int32) (s1 : Int32), p_out s1 16 = false → p_ev scr 103 58 [.ref 24, .int x1, .int x2, .int x3] [.int s0, .int s1, .ref 25] w = p_ev scr 103 59 [.ref 24, .int x1, .int x2, .int x3] [] (w.1, w.2.1, p_u w.2.2 25 s1.toNatClampNeg s0)) ∧
  (∀ (scr : pX) (w : pW) (x1 : Int32) (x2 : Int32) (x3 : Int32), p_ev scr 103 59 [.ref 24, .int x1, .int x2, .int x3] [] w = p_ev scr 103 62 [.ref 24, .int x1, .int x2, .int (x3 + (nI 1))] [] w) ∧
  (∀ (scr : pX) (w : pW) (x1 : Int32) (x2 : Int32) (x3 : Int32), p_ev scr 103 62 [.ref 24, .int x1, .int x2, .int x3] [] w = p_ev scr 103 46 [.ref 24, .int x1, .int x2, .int x3] [] w) ∧
  (∀ (scr : pX) (w : pW) (x1 : Int32) (x2 : Int32) (x3 : Int32), p_ev scr 103 65 [.ref 24, .int x1, .int x2, .int x3] [] w = p_ev scr 103 66 [.ref 24, .int x1, .int x2, .int x3] [.ref 24] w) ∧
  (∀ (scr : pX) (w : pW) (x1 : Int32) (x2 : Int32) (x3 : Int32), p_ev scr 103 66 [.ref 24, .int x1, .int x2, .int x3] [.ref 24] w = p_ev scr 103 69 [.ref 24, .int x1, .int x2, .int x3] [.ref 25] w) ∧
  (∀ (scr : pX) (w : pW) (x1 : Int32) (x2 : Int32) (x3 : Int32), p_ev scr 103 69 [.ref 24, .int x1, .int x2, .int x3] [.ref 25] w = p_ev scr 103 70 [.ref 24, .int x1, .int x2, .int x3] [.int (nI 1), .ref 25] w) ∧
  (∀ (scr : pX) (w : pW) (x1 : Int32) (x2 : Int32) (x3 : Int32) (s0 : Int32), p_ev scr 103 70 [.ref 24, .int x1, .int x2, .int x3] [.int s0, .ref 25] w = p_ev scr 103 71 [.ref 24, .int x1, .int x2, .int x3] [.int (nI 1), .int s0, .ref 25] w) ∧
  (∀ (scr : pX) (w : pW) (x1 : Int32) (x2 : Int32) (x3 : Int32) (s0 : Int32) (s1 : Int32), p_out s1 16 = false → p_ev scr 103 71 [.ref 24, .int x1, .int x2, .int x3] [.int s0, .int s1, .ref 25] w = p_ev scr 103 72 [.ref 24, .int x1, .int x2, .int x3] [] (w.1, w.2.1, p_u w.2.2 25 s1.toNatClampNeg s0)) ∧
  (∀ (scr : pX) (w : pW) (x1 : Int32) (x2 : Int32) (x3 : Int32), p_ev scr 103 72 [.ref 24, .int x1, .int x2, .int x3] [] w = p_ev scr 103 73 [.ref 24, .int x1, .int x2, .int x3] [.int (nI 0)] w) ∧
  (∀ (scr : pX) (w : pW) (x1 : Int32) (x2 : Int32) (x3 : Int32) (s0 : Int32), p_ev scr 103 73 [.ref 24, .int x1, .int x2, .int x3] [.int s0] w = p_ev scr 103 74 [.ref 24, .int x1, .int x2, .int s0] [] w) ∧
  (∀ (scr : pX) (w : pW) (x1 : Int32) (x2 : Int32) (x3 : Int32) (s0 : Int32), p_ev scr 103 75 [.ref 24, .int x1, .int x2, .int x3] [.int s0] w = p_ev scr 103 78 [.ref 24, .int x1, .int x2, .int x3] [.int (nI 512), .int s0] w) ∧
  (∀ (scr : pX) (w : pW) (x1 : Int32) (x2 : Int32) (x3 : Int32) (s0 : Int32) (s1 : Int32), p_ev scr 103 78 [.ref 24, .int x1, .int x2, .int x3] [.int s0, .int s1] w = if s0 ≤ s1 then p_ev scr 103 94 [.ref 24, .int x1, .int x2, .int x3] [] w else p_ev scr 103 81 [.ref 24, .int x1, .int x2, .int x3] [] w) ∧
  (∀ (scr : pX) (w : pW) (x1 : Int32) (x2 : Int32) (x3 : Int32), p_ev scr 103 81 [.ref 24, .int x1, .int x2, .int x3] [] w = p_ev scr 103 82 [.ref 24, .int x1, .int x2, .int x3] [.ref 24] w) ∧
  (∀ (scr : pX) (w : pW) (x1 : Int32) (x2 : Int32) (x3 : Int32), p_ev scr 103 82 [.ref 24, .int x1, .int x2, .int x3] [.ref 24] w = p_ev scr 103 85 [.ref 24, .int x1, .int x2, .int x3] [.ref 26] w) ∧
  (∀ (scr : pX) (w : pW) (x1 : Int32) (x2 : Int32) (x3 : Int32), p_ev scr 103 85 [.ref 24, .int x1, .int x2, .int x3] [.ref 26] w = p_ev scr 103 86 [.ref 24, .int x1, .int x2, .int x3] [.int x3, .ref 26] w) ∧
  (∀ (scr : pX) (w : pW) (x1 : Int32) (x2 : Int32) (x3 : Int32) (s0 : Int32), p_ev scr 103 86 [.ref 24, .int x1, .int x2, .int x3] [.int s0, .ref 26] w = p_ev scr 103 87 [.ref 24, .int x1, .int x2, .int x3] [.long (lN 0), .int s0, .ref 26] w) ∧
  (∀ (scr : pX) (w : pW) (x1 : Int32) (x2 : Int32) (x3 : Int32) (t0 : Int64) (s1 : Int32), p_out s1 512 = false → p_ev scr 103 87 [.ref 24, .int x1, .int x2, .int x3] [.long t0, .int s1, .ref 26] w = p_ev scr 103 88 [.ref 24, .int x1, .int x2, .int x3] [] (w.1, p_u w.2.1 26 s1.toNatClampNeg t0, w.2.2)) ∧
  (∀ (scr : pX) (w : pW) (x1 : Int32) (x2 : Int32) (x3 : Int32), p_ev scr 103 88 [.ref 24, .int x1, .int x2, .int x3] [] w = p_ev scr 103 91 [.ref 24, .int x1, .int x2, .int (x3 + (nI 1))] [] w) ∧
  (∀ (scr : pX) (w : pW) (x1 : Int32) (x2 : Int32) (x3 : Int32), p_ev scr 103 91 [.ref 24, .int x1, .int x2, .int x3] [] w = p_ev scr 103 74 [.ref 24, .int x1, .int x2, .int x3] [] w) ∧
  (∀ (scr : pX) (w : pW) (x1 : Int32) (x2 : Int32) (x3 : Int32), p_ev scr 103 94 [.ref 24, .int x1, .int x2, .int x3] [] w = p_ev scr 103 95 [.ref 24, .int x1, .int x2, .int x3] [.int x2] w) ∧
  (∀ (scr : pX) (w : pW) (x1 : Int32) (x2 : Int32) (x3 : Int32) (s0 : Int32), p_ev scr 103 95 [.ref 24, .int x1, .int x2, .int x3] [.int s0] w = some (.inl (some (.int s0)), w, 0)) :=
  ⟨fun _ _ _ => p_r (by decide +kernel : p_at 103 0 = some (.aload_n 0)) rfl,
  fun _ _ _ => p_r (by decide +kernel : p_at 103 1 = some (.iconst 0)) rfl,
  fun _ _ _ _ => p_rpf (by decide +kernel : p_at 103 2 = some (.putfield 63)) (by decide +kernel : p_fld (p_own 103) 63 = some (5, 4)) (rfl : p_ob 24 = some (.inr (5, [some 25, some 26, none, none, none, some 27, some 28, some 29, some 30, some 31, some 32, some 33, some 34, some 35, some 36, some 37, some 38, some 39, none, none, some 40]))) rfl,
  fun _ _ _ => p_r (by decide +kernel : p_at 103 5 = some (.iload_n 1)) rfl,
  fun _ _ _ _ => p_r (by decide +kernel : p_at 103 6 = some (.iconst 4)) rfl,
  fun _ _ _ _ _ => p_rb2 (c := fun x y => decide (x = y)) (off := 27) (by decide +kernel : p_at 103 7 = some (.if_icmp .eq 27)) (by decide +kernel) rfl rfl rfl,
  fun _ _ _ => p_r (by decide +kernel : p_at 103 10 = some (.iload_n 1)) rfl,
  fun _ _ _ _ => p_r (by decide +kernel : p_at 103 11 = some (.bipush 8)) rfl,
  fun _ _ _ _ _ => p_rb2 (c := fun x y => decide (x = y)) (off := 21) (by decide +kernel : p_at 103 13 = some (.if_icmp .eq 21)) (by decide +kernel) rfl rfl rfl,
  fun _ _ _ => p_r (by decide +kernel : p_at 103 16 = some (.iload_n 1)) rfl,
  fun _ _ _ _ => p_r (by decide +kernel : p_at 103 17 = some (.bipush 16)) rfl,
  fun _ _ _ _ _ => p_rb2 (c := fun x y => decide (x = y)) (off := 15) (by decide +kernel : p_at 103 19 = some (.if_icmp .eq 15)) (by decide +kernel) rfl rfl rfl,
  fun _ _ _ => p_r (by decide +kernel : p_at 103 22 = some (.iload_n 1)) rfl,
  fun _ _ _ _ => p_r (by decide +kernel : p_at 103 23 = some (.bipush 32)) rfl,
  fun _ _ _ _ _ => p_rb2 (c := fun x y => decide (x = y)) (off := 9) (by decide +kernel : p_at 103 25 = some (.if_icmp .eq 9)) (by decide +kernel) rfl rfl rfl,
  fun _ _ _ => p_r (by decide +kernel : p_at 103 28 = some (.aload_n 0)) rfl,
  fun _ _ _ => p_r (by decide +kernel : p_at 103 29 = some (.iconst 1)) rfl,
  fun _ _ _ _ => p_rcv (nl := 2) (by decide +kernel : p_at 103 30 = some (.invokevirtual 76)) (by decide +kernel : p_inv (p_own 103) 76 = some (1, 96, 2)) (by decide +kernel) (rfl : p_ob 24 = some (.inr (5, [some 25, some 26, none, none, none, some 27, some 28, some 29, some 30, some 31, some 32, some 33, some 34, some 35, some 36, some 37, some 38, some 39, none, none, some 40]))) rfl rfl (Nat.le_of_ble_eq_true rfl) (Nat.le_of_ble_eq_true rfl) (Nat.le_of_ble_eq_true rfl) rfl,
  fun _ _ _ _ => p_riret (by decide +kernel : p_at 103 33 = some (.ireturn)) (by decide +kernel),
  fun _ _ _ => p_r (by decide +kernel : p_at 103 34 = some (.aload_n 0)) rfl,
  fun _ _ _ => p_rgf (f := none) (by decide +kernel : p_at 103 35 = some (.getfield 17)) (by decide +kernel : p_fld (p_own 103) 17 = some (5, 2)) (rfl : p_ob 24 = some (.inr (5, [some 25, some 26, none, none, none, some 27, some 28, some 29, some 30, some 31, some 32, some 33, some 34, some 35, some 36, some 37, some 38, some 39, none, none, some 40]))) rfl,
  fun _ _ _ _ => p_r (by decide +kernel : p_at 103 38 = some (.istore_n 2)) rfl,
  fun _ _ _ _ => p_r (by decide +kernel : p_at 103 39 = some (.aload_n 0)) rfl,
  fun _ _ _ _ => p_r (by decide +kernel : p_at 103 40 = some (.iload_n 1)) rfl,
  fun _ _ _ _ _ => p_rpf (by decide +kernel : p_at 103 41 = some (.putfield 17)) (by decide +kernel : p_fld (p_own 103) 17 = some (5, 2)) (rfl : p_ob 24 = some (.inr (5, [some 25, some 26, none, none, none, some 27, some 28, some 29, some 30, some 31, some 32, some 33, some 34, some 35, some 36, some 37, some 38, some 39, none, none, some 40]))) rfl,
  fun _ _ _ _ => p_r (by decide +kernel : p_at 103 44 = some (.iconst 0)) rfl,
  fun _ _ _ _ _ => p_r (by decide +kernel : p_at 103 45 = some (.istore_n 3)) rfl,
  fun _ _ _ _ _ _ => p_r (by decide +kernel : p_at 103 47 = some (.bipush 16)) rfl,
  fun _ _ _ _ _ _ _ => p_rb2 (c := fun x y => decide (y ≤ x)) (off := 16) (by decide +kernel : p_at 103 49 = some (.if_icmp .ge 16)) (by decide +kernel) rfl rfl rfl,
  fun _ _ _ _ _ => p_r (by decide +kernel : p_at 103 52 = some (.aload_n 0)) rfl,
  fun _ _ _ _ _ => p_rgf (f := some 25) (by decide +kernel : p_at 103 53 = some (.getfield 7)) (by decide +kernel : p_fld (p_own 103) 7 = some (5, 0)) (rfl : p_ob 24 = some (.inr (5, [some 25, some 26, none, none, none, some 27, some 28, some 29, some 30, some 31, some 32, some 33, some 34, some 35, some 36, some 37, some 38, some 39, none, none, some 40]))) rfl,
  fun _ _ _ _ _ => p_r (by decide +kernel : p_at 103 56 = some (.iload_n 3)) rfl,
  fun _ _ _ _ _ _ => p_r (by decide +kernel : p_at 103 57 = some (.iconst 0)) rfl,
  fun _ _ _ _ _ _ _ hp => p_riast (by decide +kernel : p_at 103 58 = some (.iastore)) (rfl : p_ob 25 = some (.inl (1, 16))) hp,
  fun _ _ _ _ _ => p_r (by decide +kernel : p_at 103 59 = some (.iinc 3 1)) rfl,
  fun _ _ _ _ _ => p_rgo (by decide +kernel : p_at 103 62 = some (.goto (-16))) (by decide +kernel),
  fun _ _ _ _ _ => p_r (by decide +kernel : p_at 103 65 = some (.aload_n 0)) rfl,
  fun _ _ _ _ _ => p_rgf (f := some 25) (by decide +kernel : p_at 103 66 = some (.getfield 7)) (by decide +kernel : p_fld (p_own 103) 7 = some (5, 0)) (rfl : p_ob 24 = some (.inr (5, [some 25, some 26, none, none, none, some 27, some 28, some 29, some 30, some 31, some 32, some 33, some 34, some 35, some 36, some 37, some 38, some 39, none, none, some 40]))) rfl,
  fun _ _ _ _ _ => p_r (by decide +kernel : p_at 103 69 = some (.iconst 1)) rfl,
  fun _ _ _ _ _ _ => p_r (by decide +kernel : p_at 103 70 = some (.iconst 1)) rfl,
  fun _ _ _ _ _ _ _ hp => p_riast (by decide +kernel : p_at 103 71 = some (.iastore)) (rfl : p_ob 25 = some (.inl (1, 16))) hp,
  fun _ _ _ _ _ => p_r (by decide +kernel : p_at 103 72 = some (.iconst 0)) rfl,
  fun _ _ _ _ _ _ => p_r (by decide +kernel : p_at 103 73 = some (.istore_n 3)) rfl,
  fun _ _ _ _ _ _ => p_r (by decide +kernel : p_at 103 75 = some (.sipush 512)) rfl,
  fun _ _ _ _ _ _ _ => p_rb2 (c := fun x y => decide (y ≤ x)) (off := 16) (by decide +kernel : p_at 103 78 = some (.if_icmp .ge 16)) (by decide +kernel) rfl rfl rfl,
  fun _ _ _ _ _ => p_r (by decide +kernel : p_at 103 81 = some (.aload_n 0)) rfl,
  fun _ _ _ _ _ => p_rgf (f := some 26) (by decide +kernel : p_at 103 82 = some (.getfield 13)) (by decide +kernel : p_fld (p_own 103) 13 = some (5, 1)) (rfl : p_ob 24 = some (.inr (5, [some 25, some 26, none, none, none, some 27, some 28, some 29, some 30, some 31, some 32, some 33, some 34, some 35, some 36, some 37, some 38, some 39, none, none, some 40]))) rfl,
  fun _ _ _ _ _ => p_r (by decide +kernel : p_at 103 85 = some (.iload_n 3)) rfl,
  fun _ _ _ _ _ _ => p_r (by decide +kernel : p_at 103 86 = some (.lconst 0)) rfl,
  fun _ _ _ _ _ _ _ hp => p_rlast (by decide +kernel : p_at 103 87 = some (.lastore)) (rfl : p_ob 26 = some (.inl (2, 512))) hp,
  fun _ _ _ _ _ => p_r (by decide +kernel : p_at 103 88 = some (.iinc 3 1)) rfl,
  fun _ _ _ _ _ => p_rgo (by decide +kernel : p_at 103 91 = some (.goto (-17))) (by decide +kernel),
  fun _ _ _ _ _ => p_r (by decide +kernel : p_at 103 94 = some (.iload_n 2)) rfl,
  fun _ _ _ _ _ _ => p_riret (by decide +kernel : p_at 103 95 = some (.ireturn)) (by decide +kernel)⟩
theorem H103_46 :
  (∀ (scr : pX) (w : pW) (x1 : Int32) (x2 : Int32) (x3 : Int32), p_ev scr 103 46 [.ref 24, .int x1, .int x2, .int x3] [] w = p_ev scr 103 47 [.ref 24, .int x1, .int x2, .int x3] [.int x3] w) :=
  fun _ _ _ _ _ => p_r (by decide +kernel : p_at 103 46 = some (.iload_n 3)) rfl
theorem H103_74 :
  (∀ (scr : pX) (w : pW) (x1 : Int32) (x2 : Int32) (x3 : Int32), p_ev scr 103 74 [.ref 24, .int x1, .int x2, .int x3] [] w = p_ev scr 103 75 [.ref 24, .int x1, .int x2, .int x3] [.int x3] w) :=
  fun _ _ _ _ _ => p_r (by decide +kernel : p_at 103 74 = some (.iload_n 3)) rfl
-- 104: setSample
theorem M104 :
  (∀ (scr : pX) (w : pW) (x1 : Int32) (x2 : Int32), p_ev scr 104 0 [.ref 24, .int x1, .int x2, p_U, p_U] [] w = p_ev scr 104 1 [.ref 24, .int x1, .int x2, p_U, p_U] [.ref 24] w) ∧
  (∀ (scr : pX) (w : pW) (x1 : Int32) (x2 : Int32), p_ev scr 104 1 [.ref 24, .int x1, .int x2, p_U, p_U] [.ref 24] w = p_ev scr 104 2 [.ref 24, .int x1, .int x2, p_U, p_U] [.int (nI 0), .ref 24] w) ∧
  (∀ (scr : pX) (w : pW) (x1 : Int32) (x2 : Int32) (s0 : Int32), p_ev scr 104 2 [.ref 24, .int x1, .int x2, p_U, p_U] [.int s0, .ref 24] w = p_ev scr 104 5 [.ref 24, .int x1, .int x2, p_U, p_U] [] (p_u w.1 24 4 s0, w.2)) ∧
  (∀ (scr : pX) (w : pW) (x1 : Int32) (x2 : Int32), p_ev scr 104 5 [.ref 24, .int x1, .int x2, p_U, p_U] [] w = p_ev scr 104 6 [.ref 24, .int x1, .int x2, p_U, p_U] [.int x1] w) ∧
  (∀ (scr : pX) (w : pW) (x1 : Int32) (x2 : Int32) (s0 : Int32), p_ev scr 104 6 [.ref 24, .int x1, .int x2, p_U, p_U] [.int s0] w = p_ev scr 104 7 [.ref 24, .int x1, .int x2, p_U, p_U] [.int (nI 0), .int s0] w) ∧
  (∀ (scr : pX) (w : pW) (x1 : Int32) (x2 : Int32) (s0 : Int32) (s1 : Int32), p_ev scr 104 7 [.ref 24, .int x1, .int x2, p_U, p_U] [.int s0, .int s1] w = p_ev scr 104 8 [.ref 24, .int x1, .int x2, p_U, p_U] [.ref 24, .int s0, .int s1] w) ∧
  (∀ (scr : pX) (w : pW) (x1 : Int32) (x2 : Int32) (s1 : Int32) (s2 : Int32), p_ev scr 104 8 [.ref 24, .int x1, .int x2, p_U, p_U] [.ref 24, .int s1, .int s2] w = p_ev scr 104 11 [.ref 24, .int x1, .int x2, p_U, p_U] [.int (w.1 24 2), .int s1, .int s2] w) ∧
  (∀ (scr : pX) (w : pW) (x1 : Int32) (x2 : Int32) (s0 : Int32) (s1 : Int32) (s2 : Int32), p_ev scr 104 11 [.ref 24, .int x1, .int x2, p_U, p_U] [.int s0, .int s1, .int s2] w = p_ev scr 104 12 [.ref 24, .int x1, .int x2, p_U, p_U] [.int (nI 1), .int s0, .int s1, .int s2] w) ∧
  (∀ (scr : pX) (w : pW) (x1 : Int32) (x2 : Int32) (s0 : Int32) (s1 : Int32) (s2 : Int32) (s3 : Int32), p_ev scr 104 12 [.ref 24, .int x1, .int x2, p_U, p_U] [.int s0, .int s1, .int s2, .int s3] w = p_ev scr 104 13 [.ref 24, .int x1, .int x2, p_U, p_U] [.int (s1 - s0), .int s2, .int s3] w) ∧
  (∀ (scr : pX) (w : pW) (x1 : Int32) (x2 : Int32) (s0 : Int32) (s1 : Int32) (s2 : Int32), p_ev scr 104 13 [.ref 24, .int x1, .int x2, p_U, p_U] [.int s0, .int s1, .int s2] w = p_bnd scr 104 13 16 [.ref 24, .int x1, .int x2, p_U, p_U] [] (p_ev none 97 0 [.int s2, .int s1, .int s0] [] w)) ∧
  (∀ (scr : pX) (w : pW) (x1 : Int32) (x2 : Int32) (s0 : Int32), p_ev scr 104 16 [.ref 24, .int x1, .int x2, p_U, p_U] [.int s0] w = if ¬ s0 = nI 0 then p_ev scr 104 26 [.ref 24, .int x1, .int x2, p_U, p_U] [] w else p_ev scr 104 19 [.ref 24, .int x1, .int x2, p_U, p_U] [] w) ∧
  (∀ (scr : pX) (w : pW) (x1 : Int32) (x2 : Int32), p_ev scr 104 19 [.ref 24, .int x1, .int x2, p_U, p_U] [] w = p_ev scr 104 20 [.ref 24, .int x1, .int x2, p_U, p_U] [.ref 24] w) ∧
  (∀ (scr : pX) (w : pW) (x1 : Int32) (x2 : Int32), p_ev scr 104 20 [.ref 24, .int x1, .int x2, p_U, p_U] [.ref 24] w = p_ev scr 104 21 [.ref 24, .int x1, .int x2, p_U, p_U] [.int (nI 1), .ref 24] w) ∧
  (∀ (scr : pX) (w : pW) (x1 : Int32) (x2 : Int32) (s0 : Int32), p_ev scr 104 21 [.ref 24, .int x1, .int x2, p_U, p_U] [.int s0, .ref 24] w = p_bnd scr 104 21 24 [.ref 24, .int x1, .int x2, p_U, p_U] [] (p_ev none 96 0 [.ref 24, .int s0] [] w)) ∧
  (∀ (scr : pX) (w : pW) (x1 : Int32) (x2 : Int32) (s0 : Int32), p_ev scr 104 24 [.ref 24, .int x1, .int x2, p_U, p_U] [.int s0] w = p_ev scr 104 25 [.ref 24, .int x1, .int x2, p_U, p_U] [.long s0.toInt64] w) ∧
  (∀ (scr : pX) (w : pW) (x1 : Int32) (x2 : Int32) (t0 : Int64), p_ev scr 104 25 [.ref 24, .int x1, .int x2, p_U, p_U] [.long t0] w = some (.inl (some (.long t0)), w, 0)) ∧
  (∀ (scr : pX) (w : pW) (x1 : Int32) (x2 : Int32), p_ev scr 104 26 [.ref 24, .int x1, .int x2, p_U, p_U] [] w = p_ev scr 104 27 [.ref 24, .int x1, .int x2, p_U, p_U] [.int x2] w) ∧
  (∀ (scr : pX) (w : pW) (x1 : Int32) (x2 : Int32) (s0 : Int32), p_ev scr 104 27 [.ref 24, .int x1, .int x2, p_U, p_U] [.int s0] w = p_ev scr 104 30 [.ref 24, .int x1, .int x2, p_U, p_U] [.int (-1000 : Int32), .int s0] w) ∧
  (∀ (scr : pX) (w : pW) (x1 : Int32) (x2 : Int32) (s0 : Int32) (s1 : Int32), p_ev scr 104 30 [.ref 24, .int x1, .int x2, p_U, p_U] [.int s0, .int s1] w = p_ev scr 104 33 [.ref 24, .int x1, .int x2, p_U, p_U] [.int (nI 1000), .int s0, .int s1] w) ∧
  (∀ (scr : pX) (w : pW) (x1 : Int32) (x2 : Int32) (s0 : Int32) (s1 : Int32) (s2 : Int32), p_ev scr 104 33 [.ref 24, .int x1, .int x2, p_U, p_U] [.int s0, .int s1, .int s2] w = p_bnd scr 104 33 36 [.ref 24, .int x1, .int x2, p_U, p_U] [] (p_ev none 97 0 [.int s2, .int s1, .int s0] [] w)) ∧
  (∀ (scr : pX) (w : pW) (x1 : Int32) (x2 : Int32) (s0 : Int32), p_ev scr 104 36 [.ref 24, .int x1, .int x2, p_U, p_U] [.int s0] w = if ¬ s0 = nI 0 then p_ev scr 104 46 [.ref 24, .int x1, .int x2, p_U, p_U] [] w else p_ev scr 104 39 [.ref 24, .int x1, .int x2, p_U, p_U] [] w) ∧
  (∀ (scr : pX) (w : pW) (x1 : Int32) (x2 : Int32), p_ev scr 104 39 [.ref 24, .int x1, .int x2, p_U, p_U] [] w = p_ev scr 104 40 [.ref 24, .int x1, .int x2, p_U, p_U] [.ref 24] w) ∧
  (∀ (scr : pX) (w : pW) (x1 : Int32) (x2 : Int32), p_ev scr 104 40 [.ref 24, .int x1, .int x2, p_U, p_U] [.ref 24] w = p_ev scr 104 41 [.ref 24, .int x1, .int x2, p_U, p_U] [.int (nI 2), .ref 24] w) ∧
  (∀ (scr : pX) (w : pW) (x1 : Int32) (x2 : Int32) (s0 : Int32), p_ev scr 104 41 [.ref 24, .int x1, .int x2, p_U, p_U] [.int s0, .ref 24] w = p_bnd scr 104 41 44 [.ref 24, .int x1, .int x2, p_U, p_U] [] (p_ev none 96 0 [.ref 24, .int s0] [] w)) ∧
  (∀ (scr : pX) (w : pW) (x1 : Int32) (x2 : Int32) (s0 : Int32), p_ev scr 104 44 [.ref 24, .int x1, .int x2, p_U, p_U] [.int s0] w = p_ev scr 104 45 [.ref 24, .int x1, .int x2, p_U, p_U] [.long s0.toInt64] w) ∧
  (∀ (scr : pX) (w : pW) (x1 : Int32) (x2 : Int32) (t0 : Int64), p_ev scr 104 45 [.ref 24, .int x1, .int x2, p_U, p_U] [.long t0] w = some (.inl (some (.long t0)), w, 0)) ∧
  (∀ (scr : pX) (w : pW) (x1 : Int32) (x2 : Int32), p_ev scr 104 46 [.ref 24, .int x1, .int x2, p_U, p_U] [] w = p_ev scr 104 47 [.ref 24, .int x1, .int x2, p_U, p_U] [.ref 24] w) ∧
  (∀ (scr : pX) (w : pW) (x1 : Int32) (x2 : Int32), p_ev scr 104 47 [.ref 24, .int x1, .int x2, p_U, p_U] [.ref 24] w = p_ev scr 104 50 [.ref 24, .int x1, .int x2, p_U, p_U] [.ref 25] w) ∧
  (∀ (scr : pX) (w : pW) (x1 : Int32) (x2 : Int32), p_ev scr 104 50 [.ref 24, .int x1, .int x2, p_U, p_U] [.ref 25] w = p_ev scr 104 51 [.ref 24, .int x1, .int x2, p_U, p_U] [.int (nI 1), .ref 25] w) ∧
  (∀ (scr : pX) (w : pW) (x1 : Int32) (x2 : Int32) (s0 : Int32), p_out s0 16 = false → p_ev scr 104 51 [.ref 24, .int x1, .int x2, p_U, p_U] [.int s0, .ref 25] w = p_ev scr 104 52 [.ref 24, .int x1, .int x2, p_U, p_U] [.int (w.2.2 25 s0.toNatClampNeg)] w) ∧
  (∀ (scr : pX) (w : pW) (x1 : Int32) (x2 : Int32) (s0 : Int32), p_ev scr 104 52 [.ref 24, .int x1, .int x2, p_U, p_U] [.int s0] w = p_ev scr 104 53 [.ref 24, .int x1, .int x2, p_U, p_U] [.int (nI 1), .int s0] w) ∧
  (∀ (scr : pX) (w : pW) (x1 : Int32) (x2 : Int32) (s0 : Int32) (s1 : Int32), p_ev scr 104 53 [.ref 24, .int x1, .int x2, p_U, p_U] [.int s0, .int s1] w = if s1 = s0 then p_ev scr 104 63 [.ref 24, .int x1, .int x2, p_U, p_U] [] w else p_ev scr 104 56 [.ref 24, .int x1, .int x2, p_U, p_U] [] w) ∧
  (∀ (scr : pX) (w : pW) (x1 : Int32) (x2 : Int32), p_ev scr 104 56 [.ref 24, .int x1, .int x2, p_U, p_U] [] w = p_ev scr 104 57 [.ref 24, .int x1, .int x2, p_U, p_U] [.ref 24] w) ∧
  (∀ (scr : pX) (w : pW) (x1 : Int32) (x2 : Int32), p_ev scr 104 57 [.ref 24, .int x1, .int x2, p_U, p_U] [.ref 24] w = p_ev scr 104 58 [.ref 24, .int x1, .int x2, p_U, p_U] [.int (nI 3), .ref 24] w) ∧
  (∀ (scr : pX) (w : pW) (x1 : Int32) (x2 : Int32) (s0 : Int32), p_ev scr 104 58 [.ref 24, .int x1, .int x2, p_U, p_U] [.int s0, .ref 24] w = p_bnd scr 104 58 61 [.ref 24, .int x1, .int x2, p_U, p_U] [] (p_ev none 96 0 [.ref 24, .int s0] [] w)) ∧
  (∀ (scr : pX) (w : pW) (x1 : Int32) (x2 : Int32) (s0 : Int32), p_ev scr 104 61 [.ref 24, .int x1, .int x2, p_U, p_U] [.int s0] w = p_ev scr 104 62 [.ref 24, .int x1, .int x2, p_U, p_U] [.long s0.toInt64] w) ∧
  (∀ (scr : pX) (w : pW) (x1 : Int32) (x2 : Int32) (t0 : Int64), p_ev scr 104 62 [.ref 24, .int x1, .int x2, p_U, p_U] [.long t0] w = some (.inl (some (.long t0)), w, 0)) ∧
  (∀ (scr : pX) (w : pW) (x1 : Int32) (x2 : Int32), p_ev scr 104 63 [.ref 24, .int x1, .int x2, p_U, p_U] [] w = p_ev scr 104 64 [.ref 24, .int x1, .int x2, p_U, p_U] [.ref 24] w) ∧
  (∀ (scr : pX) (w : pW) (x1 : Int32) (x2 : Int32), p_ev scr 104 64 [.ref 24, .int x1, .int x2, p_U, p_U] [.ref 24] w = p_ev scr 104 67 [.ref 24, .int x1, .int x2, p_U, p_U] [.ref 26] w) ∧
  (∀ (scr : pX) (w : pW) (x1 : Int32) (x2 : Int32), p_ev scr 104 67 [.ref 24, .int x1, .int x2, p_U, p_U] [.ref 26] w = p_ev scr 104 69 [.ref 24, .int x1, .int x2, p_U, p_U] [.int (nI 32), .ref 26] w) ∧
  (∀ (scr : pX) (w : pW) (x1 : Int32) (x2 : Int32) (s0 : Int32), p_ev scr 104 69 [.ref 24, .int x1, .int x2, p_U, p_U] [.int s0, .ref 26] w = p_ev scr 104 70 [.ref 24, .int x1, .int x2, p_U, p_U] [.int x1, .int s0, .ref 26] w) ∧
  (∀ (scr : pX) (w : pW) (x1 : Int32) (x2 : Int32) (s0 : Int32) (s1 : Int32), p_ev scr 104 70 [.ref 24, .int x1, .int x2, p_U, p_U] [.int s0, .int s1, .ref 26] w = p_ev scr 104 71 [.ref 24, .int x1, .int x2, p_U, p_U] [.int (s1 + s0), .ref 26] w) ∧
  (∀ (scr : pX) (w : pW) (x1 : Int32) (x2 : Int32) (s0 : Int32), p_out s0 512 = false → p_ev scr 104 71 [.ref 24, .int x1, .int x2, p_U, p_U] [.int s0, .ref 26] w = p_ev scr 104 72 [.ref 24, .int x1, .int x2, p_U, p_U] [.long (w.2.1 26 s0.toNatClampNeg)] w) ∧
  (∀ (scr : pX) (w : pW) (x1 : Int32) (x2 : Int32) (t0 : Int64), p_ev scr 104 72 [.ref 24, .int x1, .int x2, p_U, p_U] [.long t0] w = p_ev scr 104 73 [.ref 24, .int x1, .int x2, .long t0, p_U] [] w) ∧
  (∀ (scr : pX) (w : pW) (x1 : Int32) (x2 : Int32) (y3 : Int64), p_ev scr 104 73 [.ref 24, .int x1, .int x2, .long y3, p_U] [] w = p_ev scr 104 74 [.ref 24, .int x1, .int x2, .long y3, p_U] [.ref 24] w) ∧
  (∀ (scr : pX) (w : pW) (x1 : Int32) (x2 : Int32) (y3 : Int64), p_ev scr 104 74 [.ref 24, .int x1, .int x2, .long y3, p_U] [.ref 24] w = p_ev scr 104 77 [.ref 24, .int x1, .int x2, .long y3, p_U] [.ref 26] w) ∧
  (∀ (scr : pX) (w : pW) (x1 : Int32) (x2 : Int32) (y3 : Int64), p_ev scr 104 77 [.ref 24, .int x1, .int x2, .long y3, p_U] [.ref 26] w = p_ev scr 104 79 [.ref 24, .int x1, .int x2, .long y3, p_U] [.int (nI 32), .ref 26] w) ∧
  (∀ (scr : pX) (w : pW) (x1 : Int32) (x2 : Int32) (y3 : Int64) (s0 : Int32), p_ev scr 104 79 [.ref 24, .int x1, .int x2, .long y3, p_U] [.int s0, .ref 26] w = p_ev scr 104 80 [.ref 24, .int x1, .int x2, .long y3, p_U] [.int x1, .int s0, .ref 26] w) ∧
  (∀ (scr : pX) (w : pW) (x1 : Int32) (x2 : Int32) (y3 : Int64) (s0 : Int32) (s1 : Int32), p_ev scr 104 80 [.ref 24, .int x1, .int x2, .long y3, p_U] [.int s0, .int s1, .ref 26] w = p_ev scr 104 81 [.ref 24, .int x1, .int x2, .long y3, p_U] [.int (s1 + s0), .ref 26] w) ∧
  (∀ (scr : pX) (w : pW) (x1 : Int32) (x2 : Int32) (y3 : Int64) (s0 : Int32), p_ev scr 104 81 [.ref 24, .int x1, .int x2, .long y3, p_U] [.int s0, .ref 26] w = p_ev scr 104 82 [.ref 24, .int x1, .int x2, .long y3, p_U] [.int x2, .int s0, .ref 26] w) ∧
  (∀ (scr : pX) (w : pW) (x1 : Int32) (x2 : Int32) (y3 : Int64) (s0 : Int32) (s1 : Int32), p_ev scr 104 82 [.ref 24, .int x1, .int x2, .long y3, p_U] [.int s0, .int s1, .ref 26] w = p_ev scr 104 83 [.ref 24, .int x1, .int x2, .long y3, p_U] [.long s0.toInt64, .int s1, .ref 26] w) ∧
  (∀ (scr : pX) (w : pW) (x1 : Int32) (x2 : Int32) (y3 : Int64) (t0 : Int64) (s1 : Int32), p_out s1 512 = false → p_ev scr 104 83 [.ref 24, .int x1, .int x2, .long y3, p_U] [.long t0, .int s1, .ref 26] w = p_ev scr 104 84 [.ref 24, .int x1, .int x2, .long y3, p_U] [] (w.1, p_u w.2.1 26 s1.toNatClampNeg t0, w.2.2)) ∧
  (∀ (scr : pX) (w : pW) (x1 : Int32) (x2 : Int32) (y3 : Int64), p_ev scr 104 84 [.ref 24, .int x1, .int x2, .long y3, p_U] [] w = p_ev scr 104 85 [.ref 24, .int x1, .int x2, .long y3, p_U] [.long y3] w) ∧
  (∀ (scr : pX) (w : pW) (x1 : Int32) (x2 : Int32) (y3 : Int64) (t0 : Int64), p_ev scr 104 85 [.ref 24, .int x1, .int x2, .long y3, p_U] [.long t0] w = some (.inl (some (.long t0)), w, 0)) :=
  ⟨fun _ _ _ _ => p_r (by decide +kernel : p_at 104 0 = some (.aload_n 0)) rfl,
  fun _ _ _ _ => p_r (by decide +kernel : p_at 104 1 = some (.iconst 0)) rfl,
  fun _ _ _ _ _ => p_rpf (by decide +kernel : p_at 104 2 = some (.putfield 63)) (by decide +kernel : p_fld (p_own 104) 63 = some (5, 4)) (rfl : p_ob 24 = some (.inr (5, [some 25, some 26, none, none, none, some 27, some 28, some 29, some 30, some 31, some 32, some 33, some 34, some 35, some 36, some 37, some 38, some 39, none, none, some 40]))) rfl,
  fun _ _ _ _ => p_r (by decide +kernel : p_at 104 5 = some (.iload_n 1)) rfl,
  fun _ _ _ _ _ => p_r (by decide +kernel : p_at 104 6 = some (.iconst 0)) rfl,
  fun _ _ _ _ _ _ => p_r (by decide +kernel : p_at 104 7 = some (.aload_n 0)) rfl,
  fun _ _ _ _ _ _ => p_rgf (f := none) (by decide +kernel : p_at 104 8 = some (.getfield 17)) (by decide +kernel : p_fld (p_own 104) 17 = some (5, 2)) (rfl : p_ob 24 = some (.inr (5, [some 25, some 26, none, none, none, some 27, some 28, some 29, some 30, some 31, some 32, some 33, some 34, some 35, some 36, some 37, some 38, some 39, none, none, some 40]))) rfl,
  fun _ _ _ _ _ _ _ => p_r (by decide +kernel : p_at 104 11 = some (.iconst 1)) rfl,
  fun _ _ _ _ _ _ _ _ => p_r (by decide +kernel : p_at 104 12 = some (.isub)) rfl,
  fun _ _ _ _ _ _ _ => p_rcs (nl := 3) (by decide +kernel : p_at 104 13 = some (.invokestatic 72)) (by decide +kernel : p_inv (p_own 104) 72 = some (1, 97, 3)) (by decide +kernel) rfl rfl (Nat.le_of_ble_eq_true rfl) (Nat.le_of_ble_eq_true rfl) (Nat.le_of_ble_eq_true rfl) rfl,
  fun _ _ _ _ _ => p_rb1 (c := fun x => decide (¬ x = 0)) (off := 10) (by decide +kernel : p_at 104 16 = some (.ifCond .ne 10)) (by decide +kernel) rfl rfl rfl,
  fun _ _ _ _ => p_r (by decide +kernel : p_at 104 19 = some (.aload_n 0)) rfl,
  fun _ _ _ _ => p_r (by decide +kernel : p_at 104 20 = some (.iconst 1)) rfl,
  fun _ _ _ _ _ => p_rcv (nl := 2) (by decide +kernel : p_at 104 21 = some (.invokevirtual 76)) (by decide +kernel : p_inv (p_own 104) 76 = some (1, 96, 2)) (by decide +kernel) (rfl : p_ob 24 = some (.inr (5, [some 25, some 26, none, none, none, some 27, some 28, some 29, some 30, some 31, some 32, some 33, some 34, some 35, some 36, some 37, some 38, some 39, none, none, some 40]))) rfl rfl (Nat.le_of_ble_eq_true rfl) (Nat.le_of_ble_eq_true rfl) (Nat.le_of_ble_eq_true rfl) rfl,
  fun _ _ _ _ _ => p_r (by decide +kernel : p_at 104 24 = some (.i2l)) rfl,
  fun _ _ _ _ _ => p_rlret (by decide +kernel : p_at 104 25 = some (.lreturn)) (by decide +kernel),
  fun _ _ _ _ => p_r (by decide +kernel : p_at 104 26 = some (.iload_n 2)) rfl,
  fun _ _ _ _ _ => p_r (by decide +kernel : p_at 104 27 = some (.sipush (-1000))) rfl,
  fun _ _ _ _ _ _ => p_r (by decide +kernel : p_at 104 30 = some (.sipush 1000)) rfl,
  fun _ _ _ _ _ _ _ => p_rcs (nl := 3) (by decide +kernel : p_at 104 33 = some (.invokestatic 72)) (by decide +kernel : p_inv (p_own 104) 72 = some (1, 97, 3)) (by decide +kernel) rfl rfl (Nat.le_of_ble_eq_true rfl) (Nat.le_of_ble_eq_true rfl) (Nat.le_of_ble_eq_true rfl) rfl,
  fun _ _ _ _ _ => p_rb1 (c := fun x => decide (¬ x = 0)) (off := 10) (by decide +kernel : p_at 104 36 = some (.ifCond .ne 10)) (by decide +kernel) rfl rfl rfl,
  fun _ _ _ _ => p_r (by decide +kernel : p_at 104 39 = some (.aload_n 0)) rfl,
  fun _ _ _ _ => p_r (by decide +kernel : p_at 104 40 = some (.iconst 2)) rfl,
  fun _ _ _ _ _ => p_rcv (nl := 2) (by decide +kernel : p_at 104 41 = some (.invokevirtual 76)) (by decide +kernel : p_inv (p_own 104) 76 = some (1, 96, 2)) (by decide +kernel) (rfl : p_ob 24 = some (.inr (5, [some 25, some 26, none, none, none, some 27, some 28, some 29, some 30, some 31, some 32, some 33, some 34, some 35, some 36, some 37, some 38, some 39, none, none, some 40]))) rfl rfl (Nat.le_of_ble_eq_true rfl) (Nat.le_of_ble_eq_true rfl) (Nat.le_of_ble_eq_true rfl) rfl,
  fun _ _ _ _ _ => p_r (by decide +kernel : p_at 104 44 = some (.i2l)) rfl,
  fun _ _ _ _ _ => p_rlret (by decide +kernel : p_at 104 45 = some (.lreturn)) (by decide +kernel),
  fun _ _ _ _ => p_r (by decide +kernel : p_at 104 46 = some (.aload_n 0)) rfl,
  fun _ _ _ _ => p_rgf (f := some 25) (by decide +kernel : p_at 104 47 = some (.getfield 7)) (by decide +kernel : p_fld (p_own 104) 7 = some (5, 0)) (rfl : p_ob 24 = some (.inr (5, [some 25, some 26, none, none, none, some 27, some 28, some 29, some 30, some 31, some 32, some 33, some 34, some 35, some 36, some 37, some 38, some 39, none, none, some 40]))) rfl,
  fun _ _ _ _ => p_r (by decide +kernel : p_at 104 50 = some (.iconst 1)) rfl,
  fun _ _ _ _ _ hp => p_riald (by decide +kernel : p_at 104 51 = some (.iaload)) (rfl : p_ob 25 = some (.inl (1, 16))) hp,
  fun _ _ _ _ _ => p_r (by decide +kernel : p_at 104 52 = some (.iconst 1)) rfl,
  fun _ _ _ _ _ _ => p_rb2 (c := fun x y => decide (x = y)) (off := 10) (by decide +kernel : p_at 104 53 = some (.if_icmp .eq 10)) (by decide +kernel) rfl rfl rfl,
  fun _ _ _ _ => p_r (by decide +kernel : p_at 104 56 = some (.aload_n 0)) rfl,
  fun _ _ _ _ => p_r (by decide +kernel : p_at 104 57 = some (.iconst 3)) rfl,
  fun _ _ _ _ _ => p_rcv (nl := 2) (by decide +kernel : p_at 104 58 = some (.invokevirtual 76)) (by decide +kernel : p_inv (p_own 104) 76 = some (1, 96, 2)) (by decide +kernel) (rfl : p_ob 24 = some (.inr (5, [some 25, some 26, none, none, none, some 27, some 28, some 29, some 30, some 31, some 32, some 33, some 34, some 35, some 36, some 37, some 38, some 39, none, none, some 40]))) rfl rfl (Nat.le_of_ble_eq_true rfl) (Nat.le_of_ble_eq_true rfl) (Nat.le_of_ble_eq_true rfl) rfl,
  fun _ _ _ _ _ => p_r (by decide +kernel : p_at 104 61 = some (.i2l)) rfl,
  fun _ _ _ _ _ => p_rlret (by decide +kernel : p_at 104 62 = some (.lreturn)) (by decide +kernel),
  fun _ _ _ _ => p_r (by decide +kernel : p_at 104 63 = some (.aload_n 0)) rfl,
  fun _ _ _ _ => p_rgf (f := some 26) (by decide +kernel : p_at 104 64 = some (.getfield 13)) (by decide +kernel : p_fld (p_own 104) 13 = some (5, 1)) (rfl : p_ob 24 = some (.inr (5, [some 25, some 26, none, none, none, some 27, some 28, some 29, some 30, some 31, some 32, some 33, some 34, some 35, some 36, some 37, some 38, some 39, none, none, some 40]))) rfl,
  fun _ _ _ _ => p_r (by decide +kernel : p_at 104 67 = some (.bipush 32)) rfl,
  fun _ _ _ _ _ => p_r (by decide +kernel : p_at 104 69 = some (.iload_n 1)) rfl,
  fun _ _ _ _ _ _ => p_r (by decide +kernel : p_at 104 70 = some (.iadd)) rfl,
  fun _ _ _ _ _ hp => p_rlald (by decide +kernel : p_at 104 71 = some (.laload)) (rfl : p_ob 26 = some (.inl (2, 512))) hp,
  fun _ _ _ _ _ => p_r (by decide +kernel : p_at 104 72 = some (.lstore_n 3)) rfl,
  fun _ _ _ _ _ => p_r (by decide +kernel : p_at 104 73 = some (.aload_n 0)) rfl,
  fun _ _ _ _ _ => p_rgf (f := some 26) (by decide +kernel : p_at 104 74 = some (.getfield 13)) (by decide +kernel : p_fld (p_own 104) 13 = some (5, 1)) (rfl : p_ob 24 = some (.inr (5, [some 25, some 26, none, none, none, some 27, some 28, some 29, some 30, some 31, some 32, some 33, some 34, some 35, some 36, some 37, some 38, some 39, none, none, some 40]))) rfl,
  fun _ _ _ _ _ => p_r (by decide +kernel : p_at 104 77 = some (.bipush 32)) rfl,
  fun _ _ _ _ _ _ => p_r (by decide +kernel : p_at 104 79 = some (.iload_n 1)) rfl,
  fun _ _ _ _ _ _ _ => p_r (by decide +kernel : p_at 104 80 = some (.iadd)) rfl,
  fun _ _ _ _ _ _ => p_r (by decide +kernel : p_at 104 81 = some (.iload_n 2)) rfl,
  fun _ _ _ _ _ _ _ => p_r (by decide +kernel : p_at 104 82 = some (.i2l)) rfl,
  fun _ _ _ _ _ _ _ hp => p_rlast (by decide +kernel : p_at 104 83 = some (.lastore)) (rfl : p_ob 26 = some (.inl (2, 512))) hp,
  fun _ _ _ _ _ => p_r (by decide +kernel : p_at 104 84 = some (.lload_n 3)) rfl,
  fun _ _ _ _ _ _ => p_rlret (by decide +kernel : p_at 104 85 = some (.lreturn)) (by decide +kernel)⟩
-- 105: even
theorem M105 :
  (∀ (scr : pX) (w : pW) (x1 : Int32) (x2 : Int32), p_ev scr 105 0 [.ref 24, .int x1, .int x2] [] w = p_ev scr 105 1 [.ref 24, .int x1, .int x2] [.ref 24] w) ∧
  (∀ (scr : pX) (w : pW) (x1 : Int32) (x2 : Int32), p_ev scr 105 1 [.ref 24, .int x1, .int x2] [.ref 24] w = p_ev scr 105 4 [.ref 24, .int x1, .int x2] [.ref 27] w) ∧
  (∀ (scr : pX) (w : pW) (x1 : Int32) (x2 : Int32), p_ev scr 105 4 [.ref 24, .int x1, .int x2] [.ref 27] w = p_ev scr 105 5 [.ref 24, .int x1, .int x2] [.int x1, .ref 27] w) ∧
  (∀ (scr : pX) (w : pW) (x1 : Int32) (x2 : Int32) (s0 : Int32), p_ev scr 105 5 [.ref 24, .int x1, .int x2] [.int s0, .ref 27] w = p_ev scr 105 6 [.ref 24, .int x1, .int x2] [.int x2, .int s0, .ref 27] w) ∧
  (∀ (scr : pX) (w : pW) (x1 : Int32) (x2 : Int32) (s0 : Int32) (s1 : Int32), p_ev scr 105 6 [.ref 24, .int x1, .int x2] [.int s0, .int s1, .ref 27] w = if s0 ≤ s1 then p_ev scr 105 13 [.ref 24, .int x1, .int x2] [.ref 27] w else p_ev scr 105 9 [.ref 24, .int x1, .int x2] [.ref 27] w) ∧
  (∀ (scr : pX) (w : pW) (x1 : Int32) (x2 : Int32), p_ev scr 105 9 [.ref 24, .int x1, .int x2] [.ref 27] w = p_ev scr 105 10 [.ref 24, .int x1, .int x2] [.int x1, .ref 27] w) ∧
  (∀ (scr : pX) (w : pW) (x1 : Int32) (x2 : Int32) (s0 : Int32), p_ev scr 105 10 [.ref 24, .int x1, .int x2] [.int s0, .ref 27] w = p_ev scr 105 16 [.ref 24, .int x1, .int x2] [.int s0, .ref 27] w) ∧
  (∀ (scr : pX) (w : pW) (x1 : Int32) (x2 : Int32), p_ev scr 105 13 [.ref 24, .int x1, .int x2] [.ref 27] w = p_ev scr 105 14 [.ref 24, .int x1, .int x2] [.int x2, .ref 27] w) ∧
  (∀ (scr : pX) (w : pW) (x1 : Int32) (x2 : Int32) (s0 : Int32), p_ev scr 105 14 [.ref 24, .int x1, .int x2] [.int s0, .ref 27] w = p_ev scr 105 15 [.ref 24, .int x1, .int x2] [.int (nI 1), .int s0, .ref 27] w) ∧
  (∀ (scr : pX) (w : pW) (x1 : Int32) (x2 : Int32) (s0 : Int32) (s1 : Int32), p_ev scr 105 15 [.ref 24, .int x1, .int x2] [.int s0, .int s1, .ref 27] w = p_ev scr 105 16 [.ref 24, .int x1, .int x2] [.int (s1 - s0), .ref 27] w) ∧
  (∀ (scr : pX) (w : pW) (x1 : Int32) (x2 : Int32) (s0 : Int32), p_out s0 16 = false → p_ev scr 105 16 [.ref 24, .int x1, .int x2] [.int s0, .ref 27] w = p_ev scr 105 17 [.ref 24, .int x1, .int x2] [.long (w.2.1 27 s0.toNatClampNeg)] w) ∧
  (∀ (scr : pX) (w : pW) (x1 : Int32) (x2 : Int32) (t0 : Int64), p_ev scr 105 17 [.ref 24, .int x1, .int x2] [.long t0] w = some (.inl (some (.long t0)), w, 0)) :=
  ⟨fun _ _ _ _ => p_r (by decide +kernel : p_at 105 0 = some (.aload_n 0)) rfl,
  fun _ _ _ _ => p_rgf (f := some 27) (by decide +kernel : p_at 105 1 = some (.getfield 21)) (by decide +kernel : p_fld (p_own 105) 21 = some (5, 5)) (rfl : p_ob 24 = some (.inr (5, [some 25, some 26, none, none, none, some 27, some 28, some 29, some 30, some 31, some 32, some 33, some 34, some 35, some 36, some 37, some 38, some 39, none, none, some 40]))) rfl,
  fun _ _ _ _ => p_r (by decide +kernel : p_at 105 4 = some (.iload_n 1)) rfl,
  fun _ _ _ _ _ => p_r (by decide +kernel : p_at 105 5 = some (.iload_n 2)) rfl,
  fun _ _ _ _ _ _ => p_rb2 (c := fun x y => decide (y ≤ x)) (off := 7) (by decide +kernel : p_at 105 6 = some (.if_icmp .ge 7)) (by decide +kernel) rfl rfl rfl,
  fun _ _ _ _ => p_r (by decide +kernel : p_at 105 9 = some (.iload_n 1)) rfl,
  fun _ _ _ _ _ => p_rgo (by decide +kernel : p_at 105 10 = some (.goto 6)) (by decide +kernel),
  fun _ _ _ _ => p_r (by decide +kernel : p_at 105 13 = some (.iload_n 2)) rfl,
  fun _ _ _ _ _ => p_r (by decide +kernel : p_at 105 14 = some (.iconst 1)) rfl,
  fun _ _ _ _ _ _ => p_r (by decide +kernel : p_at 105 15 = some (.isub)) rfl,
  fun _ _ _ _ _ hp => p_rlald (by decide +kernel : p_at 105 16 = some (.laload)) (rfl : p_ob 27 = some (.inl (2, 16))) hp,
  fun _ _ _ _ _ => p_rlret (by decide +kernel : p_at 105 17 = some (.lreturn)) (by decide +kernel)⟩
-- 106: odd
theorem M106 :
  (∀ (scr : pX) (w : pW) (x1 : Int32), p_ev scr 106 0 [.ref 24, .int x1] [] w = p_ev scr 106 1 [.ref 24, .int x1] [.ref 24] w) ∧
  (∀ (scr : pX) (w : pW) (x1 : Int32), p_ev scr 106 1 [.ref 24, .int x1] [.ref 24] w = p_ev scr 106 4 [.ref 24, .int x1] [.ref 28] w) ∧
  (∀ (scr : pX) (w : pW) (x1 : Int32), p_ev scr 106 4 [.ref 24, .int x1] [.ref 28] w = p_ev scr 106 5 [.ref 24, .int x1] [.int x1, .ref 28] w) ∧
  (∀ (scr : pX) (w : pW) (x1 : Int32) (s0 : Int32), p_ev scr 106 5 [.ref 24, .int x1] [.int s0, .ref 28] w = if nI 0 ≤ s0 then p_ev scr 106 12 [.ref 24, .int x1] [.ref 28] w else p_ev scr 106 8 [.ref 24, .int x1] [.ref 28] w) ∧
  (∀ (scr : pX) (w : pW) (x1 : Int32), p_ev scr 106 8 [.ref 24, .int x1] [.ref 28] w = p_ev scr 106 9 [.ref 24, .int x1] [.int (nI 0), .ref 28] w) ∧
  (∀ (scr : pX) (w : pW) (x1 : Int32) (s0 : Int32), p_ev scr 106 9 [.ref 24, .int x1] [.int s0, .ref 28] w = p_ev scr 106 13 [.ref 24, .int x1] [.int s0, .ref 28] w) ∧
  (∀ (scr : pX) (w : pW) (x1 : Int32), p_ev scr 106 12 [.ref 24, .int x1] [.ref 28] w = p_ev scr 106 13 [.ref 24, .int x1] [.int x1, .ref 28] w) ∧
  (∀ (scr : pX) (w : pW) (x1 : Int32) (s0 : Int32), p_out s0 16 = false → p_ev scr 106 13 [.ref 24, .int x1] [.int s0, .ref 28] w = p_ev scr 106 14 [.ref 24, .int x1] [.long (w.2.1 28 s0.toNatClampNeg)] w) ∧
  (∀ (scr : pX) (w : pW) (x1 : Int32) (t0 : Int64), p_ev scr 106 14 [.ref 24, .int x1] [.long t0] w = some (.inl (some (.long t0)), w, 0)) :=
  ⟨fun _ _ _ => p_r (by decide +kernel : p_at 106 0 = some (.aload_n 0)) rfl,
  fun _ _ _ => p_rgf (f := some 28) (by decide +kernel : p_at 106 1 = some (.getfield 24)) (by decide +kernel : p_fld (p_own 106) 24 = some (5, 6)) (rfl : p_ob 24 = some (.inr (5, [some 25, some 26, none, none, none, some 27, some 28, some 29, some 30, some 31, some 32, some 33, some 34, some 35, some 36, some 37, some 38, some 39, none, none, some 40]))) rfl,
  fun _ _ _ => p_r (by decide +kernel : p_at 106 4 = some (.iload_n 1)) rfl,
  fun _ _ _ _ => p_rb1 (c := fun x => decide (0 ≤ x)) (off := 7) (by decide +kernel : p_at 106 5 = some (.ifCond .ge 7)) (by decide +kernel) rfl rfl rfl,
  fun _ _ _ => p_r (by decide +kernel : p_at 106 8 = some (.iconst 0)) rfl,
  fun _ _ _ _ => p_rgo (by decide +kernel : p_at 106 9 = some (.goto 4)) (by decide +kernel),
  fun _ _ _ => p_r (by decide +kernel : p_at 106 12 = some (.iload_n 1)) rfl,
  fun _ _ _ _ hp => p_rlald (by decide +kernel : p_at 106 13 = some (.laload)) (rfl : p_ob 28 = some (.inl (2, 16))) hp,
  fun _ _ _ _ => p_rlret (by decide +kernel : p_at 106 14 = some (.lreturn)) (by decide +kernel)⟩
-- 107: added
theorem M107 :
  (∀ (scr : pX) (w : pW) (x1 : Int32) (x2 : Int32) (x3 : Int32), p_ev scr 107 0 [.ref 24, .int x1, .int x2, .int x3, p_U, p_U, p_U, p_U] [] w = p_ev scr 107 1 [.ref 24, .int x1, .int x2, .int x3, p_U, p_U, p_U, p_U] [.ref 24] w) ∧
  (∀ (scr : pX) (w : pW) (x1 : Int32) (x2 : Int32) (x3 : Int32), p_ev scr 107 1 [.ref 24, .int x1, .int x2, .int x3, p_U, p_U, p_U, p_U] [.ref 24] w = p_ev scr 107 4 [.ref 24, .int x1, .int x2, .int x3, p_U, p_U, p_U, p_U] [.int (w.1 24 3)] w) ∧
  (∀ (scr : pX) (w : pW) (x1 : Int32) (x2 : Int32) (x3 : Int32) (s0 : Int32), p_ev scr 107 4 [.ref 24, .int x1, .int x2, .int x3, p_U, p_U, p_U, p_U] [.int s0] w = if ¬ s0 = nI 0 then p_ev scr 107 34 [.ref 24, .int x1, .int x2, .int x3, p_U, p_U, p_U, p_U] [] w else p_ev scr 107 7 [.ref 24, .int x1, .int x2, .int x3, p_U, p_U, p_U, p_U] [] w) ∧
  (∀ (scr : pX) (w : pW) (x1 : Int32) (x2 : Int32) (x3 : Int32), p_ev scr 107 7 [.ref 24, .int x1, .int x2, .int x3, p_U, p_U, p_U, p_U] [] w = p_ev scr 107 8 [.ref 24, .int x1, .int x2, .int x3, p_U, p_U, p_U, p_U] [.int x1] w) ∧
  (∀ (scr : pX) (w : pW) (x1 : Int32) (x2 : Int32) (x3 : Int32) (s0 : Int32), p_ev scr 107 8 [.ref 24, .int x1, .int x2, .int x3, p_U, p_U, p_U, p_U] [.int s0] w = if ¬ s0 = nI 0 then p_ev scr 107 21 [.ref 24, .int x1, .int x2, .int x3, p_U, p_U, p_U, p_U] [] w else p_ev scr 107 11 [.ref 24, .int x1, .int x2, .int x3, p_U, p_U, p_U, p_U] [] w) ∧
  (∀ (scr : pX) (w : pW) (x1 : Int32) (x2 : Int32) (x3 : Int32), p_ev scr 107 11 [.ref 24, .int x1, .int x2, .int x3, p_U, p_U, p_U, p_U] [] w = p_ev scr 107 12 [.ref 24, .int x1, .int x2, .int x3, p_U, p_U, p_U, p_U] [.ref 24] w) ∧
  (∀ (scr : pX) (w : pW) (x1 : Int32) (x2 : Int32) (x3 : Int32), p_ev scr 107 12 [.ref 24, .int x1, .int x2, .int x3, p_U, p_U, p_U, p_U] [.ref 24] w = p_ev scr 107 15 [.ref 24, .int x1, .int x2, .int x3, p_U, p_U, p_U, p_U] [.ref 27] w) ∧
  (∀ (scr : pX) (w : pW) (x1 : Int32) (x2 : Int32) (x3 : Int32), p_ev scr 107 15 [.ref 24, .int x1, .int x2, .int x3, p_U, p_U, p_U, p_U] [.ref 27] w = p_ev scr 107 16 [.ref 24, .int x1, .int x2, .int x3, p_U, p_U, p_U, p_U] [.int x2, .ref 27] w) ∧
  (∀ (scr : pX) (w : pW) (x1 : Int32) (x2 : Int32) (x3 : Int32) (s0 : Int32), p_out s0 16 = false → p_ev scr 107 16 [.ref 24, .int x1, .int x2, .int x3, p_U, p_U, p_U, p_U] [.int s0, .ref 27] w = p_ev scr 107 17 [.ref 24, .int x1, .int x2, .int x3, p_U, p_U, p_U, p_U] [.long (w.2.1 27 s0.toNatClampNeg)] w) ∧
  (∀ (scr : pX) (w : pW) (x1 : Int32) (x2 : Int32) (x3 : Int32) (t0 : Int64), p_ev scr 107 17 [.ref 24, .int x1, .int x2, .int x3, p_U, p_U, p_U, p_U] [.long t0] w = p_ev scr 107 18 [.ref 24, .int x1, .int x2, .int x3, p_U, p_U, p_U, p_U] [.long (-t0)] w) ∧
  (∀ (scr : pX) (w : pW) (x1 : Int32) (x2 : Int32) (x3 : Int32) (t0 : Int64), p_ev scr 107 18 [.ref 24, .int x1, .int x2, .int x3, p_U, p_U, p_U, p_U] [.long t0] w = p_ev scr 107 33 [.ref 24, .int x1, .int x2, .int x3, p_U, p_U, p_U, p_U] [.long t0] w) ∧
  (∀ (scr : pX) (w : pW) (x1 : Int32) (x2 : Int32) (x3 : Int32), p_ev scr 107 21 [.ref 24, .int x1, .int x2, .int x3, p_U, p_U, p_U, p_U] [] w = p_ev scr 107 22 [.ref 24, .int x1, .int x2, .int x3, p_U, p_U, p_U, p_U] [.ref 24] w) ∧
  (∀ (scr : pX) (w : pW) (x1 : Int32) (x2 : Int32) (x3 : Int32), p_ev scr 107 22 [.ref 24, .int x1, .int x2, .int x3, p_U, p_U, p_U, p_U] [.ref 24] w = p_ev scr 107 25 [.ref 24, .int x1, .int x2, .int x3, p_U, p_U, p_U, p_U] [.ref 28] w) ∧
  (∀ (scr : pX) (w : pW) (x1 : Int32) (x2 : Int32) (x3 : Int32), p_ev scr 107 25 [.ref 24, .int x1, .int x2, .int x3, p_U, p_U, p_U, p_U] [.ref 28] w = p_ev scr 107 26 [.ref 24, .int x1, .int x2, .int x3, p_U, p_U, p_U, p_U] [.int x2, .ref 28] w) ∧
  (∀ (scr : pX) (w : pW) (x1 : Int32) (x2 : Int32) (x3 : Int32) (s0 : Int32), p_out s0 16 = false → p_ev scr 107 26 [.ref 24, .int x1, .int x2, .int x3, p_U, p_U, p_U, p_U] [.int s0, .ref 28] w = p_ev scr 107 27 [.ref 24, .int x1, .int x2, .int x3, p_U, p_U, p_U, p_U] [.long (w.2.1 28 s0.toNatClampNeg)] w) ∧
  (∀ (scr : pX) (w : pW) (x1 : Int32) (x2 : Int32) (x3 : Int32) (t0 : Int64), p_ev scr 107 27 [.ref 24, .int x1, .int x2, .int x3, p_U, p_U, p_U, p_U] [.long t0] w = p_ev scr 107 30 [.ref 24, .int x1, .int x2, .int x3, p_U, p_U, p_U, p_U] [.long (lN 2), .long t0] w) ∧
  (∀ (scr : pX) (w : pW) (x1 : Int32) (x2 : Int32) (x3 : Int32) (t0 : Int64) (t1 : Int64), p_ev scr 107 30 [.ref 24, .int x1, .int x2, .int x3, p_U, p_U, p_U, p_U] [.long t0, .long t1] w = p_bnd scr 107 30 33 [.ref 24, .int x1, .int x2, .int x3, p_U, p_U, p_U, p_U] [] (p_ev none 99 0 [.long t1, p_U, .long t0, p_U] [] w)) ∧
  (∀ (scr : pX) (w : pW) (x1 : Int32) (x2 : Int32) (x3 : Int32) (t0 : Int64), p_ev scr 107 33 [.ref 24, .int x1, .int x2, .int x3, p_U, p_U, p_U, p_U] [.long t0] w = some (.inl (some (.long t0)), w, 0)) ∧
  (∀ (scr : pX) (w : pW) (x1 : Int32) (x2 : Int32) (x3 : Int32), p_ev scr 107 34 [.ref 24, .int x1, .int x2, .int x3, p_U, p_U, p_U, p_U] [] w = p_ev scr 107 35 [.ref 24, .int x1, .int x2, .int x3, p_U, p_U, p_U, p_U] [.ref 24] w) ∧
  (∀ (scr : pX) (w : pW) (x1 : Int32) (x2 : Int32) (x3 : Int32), p_ev scr 107 35 [.ref 24, .int x1, .int x2, .int x3, p_U, p_U, p_U, p_U] [.ref 24] w = p_ev scr 107 38 [.ref 24, .int x1, .int x2, .int x3, p_U, p_U, p_U, p_U] [.int (w.1 24 3)] w) ∧
  (∀ (scr : pX) (w : pW) (x1 : Int32) (x2 : Int32) (x3 : Int32) (s0 : Int32), p_ev scr 107 38 [.ref 24, .int x1, .int x2, .int x3, p_U, p_U, p_U, p_U] [.int s0] w = p_ev scr 107 39 [.ref 24, .int x1, .int x2, .int x3, p_U, p_U, p_U, p_U] [.int (nI 1), .int s0] w) ∧
  (∀ (scr : pX) (w : pW) (x1 : Int32) (x2 : Int32) (x3 : Int32) (s0 : Int32) (s1 : Int32), p_ev scr 107 39 [.ref 24, .int x1, .int x2, .int x3, p_U, p_U, p_U, p_U] [.int s0, .int s1] w = if ¬ s1 = s0 then p_ev scr 107 96 [.ref 24, .int x1, .int x2, .int x3, p_U, p_U, p_U, p_U] [] w else p_ev scr 107 42 [.ref 24, .int x1, .int x2, .int x3, p_U, p_U, p_U, p_U] [] w) ∧
  (∀ (scr : pX) (w : pW) (x1 : Int32) (x2 : Int32) (x3 : Int32), p_ev scr 107 42 [.ref 24, .int x1, .int x2, .int x3, p_U, p_U, p_U, p_U] [] w = p_ev scr 107 43 [.ref 24, .int x1, .int x2, .int x3, p_U, p_U, p_U, p_U] [.int x1] w) ∧
  (∀ (scr : pX) (w : pW) (x1 : Int32) (x2 : Int32) (x3 : Int32) (s0 : Int32), p_ev scr 107 43 [.ref 24, .int x1, .int x2, .int x3, p_U, p_U, p_U, p_U] [.int s0] w = if ¬ s0 = nI 0 then p_ev scr 107 71 [.ref 24, .int x1, .int x2, .int x3, p_U, p_U, p_U, p_U] [] w else p_ev scr 107 46 [.ref 24, .int x1, .int x2, .int x3, p_U, p_U, p_U, p_U] [] w) ∧
  (∀ (scr : pX) (w : pW) (x1 : Int32) (x2 : Int32) (x3 : Int32), p_ev scr 107 46 [.ref 24, .int x1, .int x2, .int x3, p_U, p_U, p_U, p_U] [] w = p_ev scr 107 47 [.ref 24, .int x1, .int x2, .int x3, p_U, p_U, p_U, p_U] [.ref 24] w) ∧
  (∀ (scr : pX) (w : pW) (x1 : Int32) (x2 : Int32) (x3 : Int32), p_ev scr 107 47 [.ref 24, .int x1, .int x2, .int x3, p_U, p_U, p_U, p_U] [.ref 24] w = p_ev scr 107 50 [.ref 24, .int x1, .int x2, .int x3, p_U, p_U, p_U, p_U] [.ref 27] w) ∧
  (∀ (scr : pX) (w : pW) (x1 : Int32) (x2 : Int32) (x3 : Int32), p_ev scr 107 50 [.ref 24, .int x1, .int x2, .int x3, p_U, p_U, p_U, p_U] [.ref 27] w = p_ev scr 107 51 [.ref 24, .int x1, .int x2, .int x3, p_U, p_U, p_U, p_U] [.int x2, .ref 27] w) ∧
  (∀ (scr : pX) (w : pW) (x1 : Int32) (x2 : Int32) (x3 : Int32) (s0 : Int32), p_out s0 16 = false → p_ev scr 107 51 [.ref 24, .int x1, .int x2, .int x3, p_U, p_U, p_U, p_U] [.int s0, .ref 27] w = p_ev scr 107 52 [.ref 24, .int x1, .int x2, .int x3, p_U, p_U, p_U, p_U] [.long (w.2.1 27 s0.toNatClampNeg)] w) ∧
  (∀ (scr : pX) (w : pW) (x1 : Int32) (x2 : Int32) (x3 : Int32) (t0 : Int64), p_ev scr 107 52 [.ref 24, .int x1, .int x2, .int x3, p_U, p_U, p_U, p_U] [.long t0] w = p_ev scr 107 53 [.ref 24, .int x1, .int x2, .int x3, p_U, p_U, p_U, p_U] [.ref 24, .long t0] w) ∧
  (∀ (scr : pX) (w : pW) (x1 : Int32) (x2 : Int32) (x3 : Int32) (t1 : Int64), p_ev scr 107 53 [.ref 24, .int x1, .int x2, .int x3, p_U, p_U, p_U, p_U] [.ref 24, .long t1] w = p_ev scr 107 54 [.ref 24, .int x1, .int x2, .int x3, p_U, p_U, p_U, p_U] [.int x2, .ref 24, .long t1] w) ∧
  (∀ (scr : pX) (w : pW) (x1 : Int32) (x2 : Int32) (x3 : Int32) (s0 : Int32) (t2 : Int64), p_ev scr 107 54 [.ref 24, .int x1, .int x2, .int x3, p_U, p_U, p_U, p_U] [.int s0, .ref 24, .long t2] w = p_ev scr 107 55 [.ref 24, .int x1, .int x2, .int x3, p_U, p_U, p_U, p_U] [.int (nI 1), .int s0, .ref 24, .long t2] w) ∧
  (∀ (scr : pX) (w : pW) (x1 : Int32) (x2 : Int32) (x3 : Int32) (s0 : Int32) (s1 : Int32) (t3 : Int64), p_ev scr 107 55 [.ref 24, .int x1, .int x2, .int x3, p_U, p_U, p_U, p_U] [.int s0, .int s1, .ref 24, .long t3] w = p_ev scr 107 56 [.ref 24, .int x1, .int x2, .int x3, p_U, p_U, p_U, p_U] [.int (s1 + s0), .ref 24, .long t3] w) ∧
  (∀ (scr : pX) (w : pW) (x1 : Int32) (x2 : Int32) (x3 : Int32) (s0 : Int32) (t2 : Int64), p_ev scr 107 56 [.ref 24, .int x1, .int x2, .int x3, p_U, p_U, p_U, p_U] [.int s0, .ref 24, .long t2] w = p_ev scr 107 57 [.ref 24, .int x1, .int x2, .int x3, p_U, p_U, p_U, p_U] [.int x3, .int s0, .ref 24, .long t2] w) ∧
  (∀ (scr : pX) (w : pW) (x1 : Int32) (x2 : Int32) (x3 : Int32) (s0 : Int32) (s1 : Int32) (t3 : Int64), p_ev scr 107 57 [.ref 24, .int x1, .int x2, .int x3, p_U, p_U, p_U, p_U] [.int s0, .int s1, .ref 24, .long t3] w = p_bnd scr 107 57 60 [.ref 24, .int x1, .int x2, .int x3, p_U, p_U, p_U, p_U] [.long t3] (p_ev none 105 0 [.ref 24, .int s1, .int s0] [] w)) ∧
  (∀ (scr : pX) (w : pW) (x1 : Int32) (x2 : Int32) (x3 : Int32) (t0 : Int64) (t1 : Int64), p_ev scr 107 60 [.ref 24, .int x1, .int x2, .int x3, p_U, p_U, p_U, p_U] [.long t0, .long t1] w = p_ev scr 107 61 [.ref 24, .int x1, .int x2, .int x3, p_U, p_U, p_U, p_U] [.long (t1 + t0)] w) ∧
  (∀ (scr : pX) (w : pW) (x1 : Int32) (x2 : Int32) (x3 : Int32) (t0 : Int64), p_ev scr 107 61 [.ref 24, .int x1, .int x2, .int x3, p_U, p_U, p_U, p_U] [.long t0] w = p_ev scr 107 64 [.ref 24, .int x1, .int x2, .int x3, p_U, p_U, p_U, p_U] [.long (lN 2), .long t0] w) ∧
  (∀ (scr : pX) (w : pW) (x1 : Int32) (x2 : Int32) (x3 : Int32) (t0 : Int64) (t1 : Int64), p_ev scr 107 64 [.ref 24, .int x1, .int x2, .int x3, p_U, p_U, p_U, p_U] [.long t0, .long t1] w = p_bnd scr 107 64 67 [.ref 24, .int x1, .int x2, .int x3, p_U, p_U, p_U, p_U] [] (p_ev none 99 0 [.long t1, p_U, .long t0, p_U] [] w)) ∧
  (∀ (scr : pX) (w : pW) (x1 : Int32) (x2 : Int32) (x3 : Int32) (t0 : Int64), p_ev scr 107 67 [.ref 24, .int x1, .int x2, .int x3, p_U, p_U, p_U, p_U] [.long t0] w = p_ev scr 107 68 [.ref 24, .int x1, .int x2, .int x3, p_U, p_U, p_U, p_U] [.long (-t0)] w) ∧
  (∀ (scr : pX) (w : pW) (x1 : Int32) (x2 : Int32) (x3 : Int32) (t0 : Int64), p_ev scr 107 68 [.ref 24, .int x1, .int x2, .int x3, p_U, p_U, p_U, p_U] [.long t0] w = p_ev scr 107 95 [.ref 24, .int x1, .int x2, .int x3, p_U, p_U, p_U, p_U] [.long t0] w) ∧
  (∀ (scr : pX) (w : pW) (x1 : Int32) (x2 : Int32) (x3 : Int32), p_ev scr 107 71 [.ref 24, .int x1, .int x2, .int x3, p_U, p_U, p_U, p_U] [] w = p_ev scr 107 72 [.ref 24, .int x1, .int x2, .int x3, p_U, p_U, p_U, p_U] [.ref 24] w) ∧
  (∀ (scr : pX) (w : pW) (x1 : Int32) (x2 : Int32) (x3 : Int32), p_ev scr 107 72 [.ref 24, .int x1, .int x2, .int x3, p_U, p_U, p_U, p_U] [.ref 24] w = p_ev scr 107 73 [.ref 24, .int x1, .int x2, .int x3, p_U, p_U, p_U, p_U] [.int x2, .ref 24] w) ∧
  (∀ (scr : pX) (w : pW) (x1 : Int32) (x2 : Int32) (x3 : Int32) (s0 : Int32), p_ev scr 107 73 [.ref 24, .int x1, .int x2, .int x3, p_U, p_U, p_U, p_U] [.int s0, .ref 24] w = p_ev scr 107 74 [.ref 24, .int x1, .int x2, .int x3, p_U, p_U, p_U, p_U] [.int (nI 1), .int s0, .ref 24] w) ∧
  (∀ (scr : pX) (w : pW) (x1 : Int32) (x2 : Int32) (x3 : Int32) (s0 : Int32) (s1 : Int32), p_ev scr 107 74 [.ref 24, .int x1, .int x2, .int x3, p_U, p_U, p_U, p_U] [.int s0, .int s1, .ref 24] w = p_ev scr 107 75 [.ref 24, .int x1, .int x2, .int x3, p_U, p_U, p_U, p_U] [.int (s1 - s0), .ref 24] w) ∧
  (∀ (scr : pX) (w : pW) (x1 : Int32) (x2 : Int32) (x3 : Int32) (s0 : Int32), p_ev scr 107 75 [.ref 24, .int x1, .int x2, .int x3, p_U, p_U, p_U, p_U] [.int s0, .ref 24] w = p_bnd scr 107 75 78 [.ref 24, .int x1, .int x2, .int x3, p_U, p_U, p_U, p_U] [] (p_ev none 106 0 [.ref 24, .int s0] [] w)) ∧
  (∀ (scr : pX) (w : pW) (x1 : Int32) (x2 : Int32) (x3 : Int32) (t0 : Int64), p_ev scr 107 78 [.ref 24, .int x1, .int x2, .int x3, p_U, p_U, p_U, p_U] [.long t0] w = p_ev scr 107 79 [.ref 24, .int x1, .int x2, .int x3, p_U, p_U, p_U, p_U] [.ref 24, .long t0] w) ∧
  (∀ (scr : pX) (w : pW) (x1 : Int32) (x2 : Int32) (x3 : Int32) (t1 : Int64), p_ev scr 107 79 [.ref 24, .int x1, .int x2, .int x3, p_U, p_U, p_U, p_U] [.ref 24, .long t1] w = p_ev scr 107 82 [.ref 24, .int x1, .int x2, .int x3, p_U, p_U, p_U, p_U] [.ref 28, .long t1] w) ∧
  (∀ (scr : pX) (w : pW) (x1 : Int32) (x2 : Int32) (x3 : Int32) (t1 : Int64), p_ev scr 107 82 [.ref 24, .int x1, .int x2, .int x3, p_U, p_U, p_U, p_U] [.ref 28, .long t1] w = p_ev scr 107 83 [.ref 24, .int x1, .int x2, .int x3, p_U, p_U, p_U, p_U] [.int x2, .ref 28, .long t1] w) ∧
  (∀ (scr : pX) (w : pW) (x1 : Int32) (x2 : Int32) (x3 : Int32) (s0 : Int32) (t2 : Int64), p_out s0 16 = false → p_ev scr 107 83 [.ref 24, .int x1, .int x2, .int x3, p_U, p_U, p_U, p_U] [.int s0, .ref 28, .long t2] w = p_ev scr 107 84 [.ref 24, .int x1, .int x2, .int x3, p_U, p_U, p_U, p_U] [.long (w.2.1 28 s0.toNatClampNeg), .long t2] w) ∧
  (∀ (scr : pX) (w : pW) (x1 : Int32) (x2 : Int32) (x3 : Int32) (t0 : Int64) (t1 : Int64), p_ev scr 107 84 [.ref 24, .int x1, .int x2, .int x3, p_U, p_U, p_U, p_U] [.long t0, .long t1] w = p_ev scr 107 85 [.ref 24, .int x1, .int x2, .int x3, p_U, p_U, p_U, p_U] [.long (t1 + t0)] w) ∧
  (∀ (scr : pX) (w : pW) (x1 : Int32) (x2 : Int32) (x3 : Int32) (t0 : Int64), p_ev scr 107 85 [.ref 24, .int x1, .int x2, .int x3, p_U, p_U, p_U, p_U] [.long t0] w = p_ev scr 107 88 [.ref 24, .int x1, .int x2, .int x3, p_U, p_U, p_U, p_U] [.long (lN 2), .long t0] w) ∧
  (∀ (scr : pX) (w : pW) (x1 : Int32) (x2 : Int32) (x3 : Int32) (t0 : Int64) (t1 : Int64), p_ev scr 107 88 [.ref 24, .int x1, .int x2, .int x3, p_U, p_U, p_U, p_U] [.long t0, .long t1] w = p_ev scr 107 89 [.ref 24, .int x1, .int x2, .int x3, p_U, p_U, p_U, p_U] [.long (t1 + t0)] w) ∧
  (∀ (scr : pX) (w : pW) (x1 : Int32) (x2 : Int32) (x3 : Int32) (t0 : Int64), p_ev scr 107 89 [.ref 24, .int x1, .int x2, .int x3, p_U, p_U, p_U, p_U] [.long t0] w = p_ev scr 107 92 [.ref 24, .int x1, .int x2, .int x3, p_U, p_U, p_U, p_U] [.long (lN 4), .long t0] w) ∧
  (∀ (scr : pX) (w : pW) (x1 : Int32) (x2 : Int32) (x3 : Int32) (t0 : Int64) (t1 : Int64), p_ev scr 107 92 [.ref 24, .int x1, .int x2, .int x3, p_U, p_U, p_U, p_U] [.long t0, .long t1] w = p_bnd scr 107 92 95 [.ref 24, .int x1, .int x2, .int x3, p_U, p_U, p_U, p_U] [] (p_ev none 99 0 [.long t1, p_U, .long t0, p_U] [] w)) ∧
  (∀ (scr : pX) (w : pW) (x1 : Int32) (x2 : Int32) (x3 : Int32) (t0 : Int64), p_ev scr 107 95 [.ref 24, .int x1, .int x2, .int x3, p_U, p_U, p_U, p_U] [.long t0] w = some (.inl (some (.long t0)), w, 0)) ∧
  (∀ (scr : pX) (w : pW) (x1 : Int32) (x2 : Int32) (x3 : Int32), p_ev scr 107 96 [.ref 24, .int x1, .int x2, .int x3, p_U, p_U, p_U, p_U] [] w = p_ev scr 107 97 [.ref 24, .int x1, .int x2, .int x3, p_U, p_U, p_U, p_U] [.int x1] w) ∧
  (∀ (scr : pX) (w : pW) (x1 : Int32) (x2 : Int32) (x3 : Int32) (s0 : Int32), p_ev scr 107 97 [.ref 24, .int x1, .int x2, .int x3, p_U, p_U, p_U, p_U] [.int s0] w = if ¬ s0 = nI 0 then p_ev scr 107 106 [.ref 24, .int x1, .int x2, .int x3, p_U, p_U, p_U, p_U] [] w else p_ev scr 107 100 [.ref 24, .int x1, .int x2, .int x3, p_U, p_U, p_U, p_U] [] w) ∧
  (∀ (scr : pX) (w : pW) (x1 : Int32) (x2 : Int32) (x3 : Int32), p_ev scr 107 100 [.ref 24, .int x1, .int x2, .int x3, p_U, p_U, p_U, p_U] [] w = p_ev scr 107 103 [.ref 24, .int x1, .int x2, .int x3, p_U, p_U, p_U, p_U] [.long (-6497 : Int64)] w) ∧
  (∀ (scr : pX) (w : pW) (x1 : Int32) (x2 : Int32) (x3 : Int32) (t0 : Int64), p_ev scr 107 103 [.ref 24, .int x1, .int x2, .int x3, p_U, p_U, p_U, p_U] [.long t0] w = p_ev scr 107 131 [.ref 24, .int x1, .int x2, .int x3, p_U, p_U, p_U, p_U] [.long t0] w) ∧
  (∀ (scr : pX) (w : pW) (x1 : Int32) (x2 : Int32) (x3 : Int32), p_ev scr 107 106 [.ref 24, .int x1, .int x2, .int x3, p_U, p_U, p_U, p_U] [] w = p_ev scr 107 107 [.ref 24, .int x1, .int x2, .int x3, p_U, p_U, p_U, p_U] [.int x1] w) ∧
  (∀ (scr : pX) (w : pW) (x1 : Int32) (x2 : Int32) (x3 : Int32) (s0 : Int32), p_ev scr 107 107 [.ref 24, .int x1, .int x2, .int x3, p_U, p_U, p_U, p_U] [.int s0] w = p_ev scr 107 108 [.ref 24, .int x1, .int x2, .int x3, p_U, p_U, p_U, p_U] [.int (nI 1), .int s0] w) ∧
  (∀ (scr : pX) (w : pW) (x1 : Int32) (x2 : Int32) (x3 : Int32) (s0 : Int32) (s1 : Int32), p_ev scr 107 108 [.ref 24, .int x1, .int x2, .int x3, p_U, p_U, p_U, p_U] [.int s0, .int s1] w = if ¬ s1 = s0 then p_ev scr 107 117 [.ref 24, .int x1, .int x2, .int x3, p_U, p_U, p_U, p_U] [] w else p_ev scr 107 111 [.ref 24, .int x1, .int x2, .int x3, p_U, p_U, p_U, p_U] [] w) ∧
  (∀ (scr : pX) (w : pW) (x1 : Int32) (x2 : Int32) (x3 : Int32), p_ev scr 107 111 [.ref 24, .int x1, .int x2, .int x3, p_U, p_U, p_U, p_U] [] w = p_ev scr 107 114 [.ref 24, .int x1, .int x2, .int x3, p_U, p_U, p_U, p_U] [.long (-217 : Int64)] w) ∧
  (∀ (scr : pX) (w : pW) (x1 : Int32) (x2 : Int32) (x3 : Int32) (t0 : Int64), p_ev scr 107 114 [.ref 24, .int x1, .int x2, .int x3, p_U, p_U, p_U, p_U] [.long t0] w = p_ev scr 107 131 [.ref 24, .int x1, .int x2, .int x3, p_U, p_U, p_U, p_U] [.long t0] w) ∧
  (∀ (scr : pX) (w : pW) (x1 : Int32) (x2 : Int32) (x3 : Int32), p_ev scr 107 117 [.ref 24, .int x1, .int x2, .int x3, p_U, p_U, p_U, p_U] [] w = p_ev scr 107 118 [.ref 24, .int x1, .int x2, .int x3, p_U, p_U, p_U, p_U] [.int x1] w) ∧
  (∀ (scr : pX) (w : pW) (x1 : Int32) (x2 : Int32) (x3 : Int32) (s0 : Int32), p_ev scr 107 118 [.ref 24, .int x1, .int x2, .int x3, p_U, p_U, p_U, p_U] [.int s0] w = p_ev scr 107 119 [.ref 24, .int x1, .int x2, .int x3, p_U, p_U, p_U, p_U] [.int (nI 2), .int s0] w) ∧
  (∀ (scr : pX) (w : pW) (x1 : Int32) (x2 : Int32) (x3 : Int32) (s0 : Int32) (s1 : Int32), p_ev scr 107 119 [.ref 24, .int x1, .int x2, .int x3, p_U, p_U, p_U, p_U] [.int s0, .int s1] w = if ¬ s1 = s0 then p_ev scr 107 128 [.ref 24, .int x1, .int x2, .int x3, p_U, p_U, p_U, p_U] [] w else p_ev scr 107 122 [.ref 24, .int x1, .int x2, .int x3, p_U, p_U, p_U, p_U] [] w) ∧
  (∀ (scr : pX) (w : pW) (x1 : Int32) (x2 : Int32) (x3 : Int32), p_ev scr 107 122 [.ref 24, .int x1, .int x2, .int x3, p_U, p_U, p_U, p_U] [] w = p_ev scr 107 125 [.ref 24, .int x1, .int x2, .int x3, p_U, p_U, p_U, p_U] [.long (lN 3616)] w) ∧
  (∀ (scr : pX) (w : pW) (x1 : Int32) (x2 : Int32) (x3 : Int32) (t0 : Int64), p_ev scr 107 125 [.ref 24, .int x1, .int x2, .int x3, p_U, p_U, p_U, p_U] [.long t0] w = p_ev scr 107 131 [.ref 24, .int x1, .int x2, .int x3, p_U, p_U, p_U, p_U] [.long t0] w) ∧
  (∀ (scr : pX) (w : pW) (x1 : Int32) (x2 : Int32) (x3 : Int32), p_ev scr 107 128 [.ref 24, .int x1, .int x2, .int x3, p_U, p_U, p_U, p_U] [] w = p_ev scr 107 131 [.ref 24, .int x1, .int x2, .int x3, p_U, p_U, p_U, p_U] [.long (lN 1817)] w) ∧
  (∀ (scr : pX) (w : pW) (x1 : Int32) (x2 : Int32) (x3 : Int32) (t0 : Int64), p_ev scr 107 131 [.ref 24, .int x1, .int x2, .int x3, p_U, p_U, p_U, p_U] [.long t0] w = p_ev scr 107 133 [.ref 24, .int x1, .int x2, .int x3, .long t0, p_U, p_U, p_U] [] w) ∧
  (∀ (scr : pX) (w : pW) (x1 : Int32) (x2 : Int32) (x3 : Int32) (y4 : Int64), p_ev scr 107 133 [.ref 24, .int x1, .int x2, .int x3, .long y4, p_U, p_U, p_U] [] w = p_ev scr 107 134 [.ref 24, .int x1, .int x2, .int x3, .long y4, p_U, p_U, p_U] [.int x1] w) ∧
  (∀ (scr : pX) (w : pW) (x1 : Int32) (x2 : Int32) (x3 : Int32) (y4 : Int64) (s0 : Int32), p_ev scr 107 134 [.ref 24, .int x1, .int x2, .int x3, .long y4, p_U, p_U, p_U] [.int s0] w = p_ev scr 107 135 [.ref 24, .int x1, .int x2, .int x3, .long y4, p_U, p_U, p_U] [.int (nI 2), .int s0] w) ∧
  (∀ (scr : pX) (w : pW) (x1 : Int32) (x2 : Int32) (x3 : Int32) (y4 : Int64) (s0 : Int32) (s1 : Int32), ¬ s0 = 0 → p_ev scr 107 135 [.ref 24, .int x1, .int x2, .int x3, .long y4, p_U, p_U, p_U] [.int s0, .int s1] w = p_ev scr 107 136 [.ref 24, .int x1, .int x2, .int x3, .long y4, p_U, p_U, p_U] [.int (s1 - s1 / s0 * s0)] w) ∧
  (∀ (scr : pX) (w : pW) (x1 : Int32) (x2 : Int32) (x3 : Int32) (y4 : Int64) (s0 : Int32), p_ev scr 107 136 [.ref 24, .int x1, .int x2, .int x3, .long y4, p_U, p_U, p_U] [.int s0] w = if ¬ s0 = nI 0 then p_ev scr 107 157 [.ref 24, .int x1, .int x2, .int x3, .long y4, p_U, p_U, p_U] [] w else p_ev scr 107 139 [.ref 24, .int x1, .int x2, .int x3, .long y4, p_U, p_U, p_U] [] w) ∧
  (∀ (scr : pX) (w : pW) (x1 : Int32) (x2 : Int32) (x3 : Int32) (y4 : Int64), p_ev scr 107 139 [.ref 24, .int x1, .int x2, .int x3, .long y4, p_U, p_U, p_U] [] w = p_ev scr 107 140 [.ref 24, .int x1, .int x2, .int x3, .long y4, p_U, p_U, p_U] [.ref 24] w) ∧
  (∀ (scr : pX) (w : pW) (x1 : Int32) (x2 : Int32) (x3 : Int32) (y4 : Int64), p_ev scr 107 140 [.ref 24, .int x1, .int x2, .int x3, .long y4, p_U, p_U, p_U] [.ref 24] w = p_ev scr 107 143 [.ref 24, .int x1, .int x2, .int x3, .long y4, p_U, p_U, p_U] [.ref 27] w) ∧
  (∀ (scr : pX) (w : pW) (x1 : Int32) (x2 : Int32) (x3 : Int32) (y4 : Int64), p_ev scr 107 143 [.ref 24, .int x1, .int x2, .int x3, .long y4, p_U, p_U, p_U] [.ref 27] w = p_ev scr 107 144 [.ref 24, .int x1, .int x2, .int x3, .long y4, p_U, p_U, p_U] [.int x2, .ref 27] w) ∧
  (∀ (scr : pX) (w : pW) (x1 : Int32) (x2 : Int32) (x3 : Int32) (y4 : Int64) (s0 : Int32), p_out s0 16 = false → p_ev scr 107 144 [.ref 24, .int x1, .int x2, .int x3, .long y4, p_U, p_U, p_U] [.int s0, .ref 27] w = p_ev scr 107 145 [.ref 24, .int x1, .int x2, .int x3, .long y4, p_U, p_U, p_U] [.long (w.2.1 27 s0.toNatClampNeg)] w) ∧
  (∀ (scr : pX) (w : pW) (x1 : Int32) (x2 : Int32) (x3 : Int32) (y4 : Int64) (t0 : Int64), p_ev scr 107 145 [.ref 24, .int x1, .int x2, .int x3, .long y4, p_U, p_U, p_U] [.long t0] w = p_ev scr 107 146 [.ref 24, .int x1, .int x2, .int x3, .long y4, p_U, p_U, p_U] [.ref 24, .long t0] w) ∧
  (∀ (scr : pX) (w : pW) (x1 : Int32) (x2 : Int32) (x3 : Int32) (y4 : Int64) (t1 : Int64), p_ev scr 107 146 [.ref 24, .int x1, .int x2, .int x3, .long y4, p_U, p_U, p_U] [.ref 24, .long t1] w = p_ev scr 107 147 [.ref 24, .int x1, .int x2, .int x3, .long y4, p_U, p_U, p_U] [.int x2, .ref 24, .long t1] w) ∧
  (∀ (scr : pX) (w : pW) (x1 : Int32) (x2 : Int32) (x3 : Int32) (y4 : Int64) (s0 : Int32) (t2 : Int64), p_ev scr 107 147 [.ref 24, .int x1, .int x2, .int x3, .long y4, p_U, p_U, p_U] [.int s0, .ref 24, .long t2] w = p_ev scr 107 148 [.ref 24, .int x1, .int x2, .int x3, .long y4, p_U, p_U, p_U] [.int (nI 1), .int s0, .ref 24, .long t2] w) ∧
  (∀ (scr : pX) (w : pW) (x1 : Int32) (x2 : Int32) (x3 : Int32) (y4 : Int64) (s0 : Int32) (s1 : Int32) (t3 : Int64), p_ev scr 107 148 [.ref 24, .int x1, .int x2, .int x3, .long y4, p_U, p_U, p_U] [.int s0, .int s1, .ref 24, .long t3] w = p_ev scr 107 149 [.ref 24, .int x1, .int x2, .int x3, .long y4, p_U, p_U, p_U] [.int (s1 + s0), .ref 24, .long t3] w) ∧
  (∀ (scr : pX) (w : pW) (x1 : Int32) (x2 : Int32) (x3 : Int32) (y4 : Int64) (s0 : Int32) (t2 : Int64), p_ev scr 107 149 [.ref 24, .int x1, .int x2, .int x3, .long y4, p_U, p_U, p_U] [.int s0, .ref 24, .long t2] w = p_ev scr 107 150 [.ref 24, .int x1, .int x2, .int x3, .long y4, p_U, p_U, p_U] [.int x3, .int s0, .ref 24, .long t2] w) ∧
  (∀ (scr : pX) (w : pW) (x1 : Int32) (x2 : Int32) (x3 : Int32) (y4 : Int64) (s0 : Int32) (s1 : Int32) (t3 : Int64), p_ev scr 107 150 [.ref 24, .int x1, .int x2, .int x3, .long y4, p_U, p_U, p_U] [.int s0, .int s1, .ref 24, .long t3] w = p_bnd scr 107 150 153 [.ref 24, .int x1, .int x2, .int x3, .long y4, p_U, p_U, p_U] [.long t3] (p_ev none 105 0 [.ref 24, .int s1, .int s0] [] w)) ∧
  (∀ (scr : pX) (w : pW) (x1 : Int32) (x2 : Int32) (x3 : Int32) (y4 : Int64) (t0 : Int64) (t1 : Int64), p_ev scr 107 153 [.ref 24, .int x1, .int x2, .int x3, .long y4, p_U, p_U, p_U] [.long t0, .long t1] w = p_ev scr 107 154 [.ref 24, .int x1, .int x2, .int x3, .long y4, p_U, p_U, p_U] [.long (t1 + t0)] w) ∧
  (∀ (scr : pX) (w : pW) (x1 : Int32) (x2 : Int32) (x3 : Int32) (y4 : Int64) (t0 : Int64), p_ev scr 107 154 [.ref 24, .int x1, .int x2, .int x3, .long y4, p_U, p_U, p_U] [.long t0] w = p_ev scr 107 171 [.ref 24, .int x1, .int x2, .int x3, .long y4, p_U, p_U, p_U] [.long t0] w) ∧
  (∀ (scr : pX) (w : pW) (x1 : Int32) (x2 : Int32) (x3 : Int32) (y4 : Int64), p_ev scr 107 157 [.ref 24, .int x1, .int x2, .int x3, .long y4, p_U, p_U, p_U] [] w = p_ev scr 107 158 [.ref 24, .int x1, .int x2, .int x3, .long y4, p_U, p_U, p_U] [.ref 24] w) ∧
  (∀ (scr : pX) (w : pW) (x1 : Int32) (x2 : Int32) (x3 : Int32) (y4 : Int64), p_ev scr 107 158 [.ref 24, .int x1, .int x2, .int x3, .long y4, p_U, p_U, p_U] [.ref 24] w = p_ev scr 107 159 [.ref 24, .int x1, .int x2, .int x3, .long y4, p_U, p_U, p_U] [.int x2, .ref 24] w) ∧
  (∀ (scr : pX) (w : pW) (x1 : Int32) (x2 : Int32) (x3 : Int32) (y4 : Int64) (s0 : Int32), p_ev scr 107 159 [.ref 24, .int x1, .int x2, .int x3, .long y4, p_U, p_U, p_U] [.int s0, .ref 24] w = p_ev scr 107 160 [.ref 24, .int x1, .int x2, .int x3, .long y4, p_U, p_U, p_U] [.int (nI 1), .int s0, .ref 24] w) ∧
  (∀ (scr : pX) (w : pW) (x1 : Int32) (x2 : Int32) (x3 : Int32) (y4 : Int64) (s0 : Int32) (s1 : Int32), p_ev scr 107 160 [.ref 24, .int x1, .int x2, .int x3, .long y4, p_U, p_U, p_U] [.int s0, .int s1, .ref 24] w = p_ev scr 107 161 [.ref 24, .int x1, .int x2, .int x3, .long y4, p_U, p_U, p_U] [.int (s1 - s0), .ref 24] w) ∧
  (∀ (scr : pX) (w : pW) (x1 : Int32) (x2 : Int32) (x3 : Int32) (y4 : Int64) (s0 : Int32), p_ev scr 107 161 [.ref 24, .int x1, .int x2, .int x3, .long y4, p_U, p_U, p_U] [.int s0, .ref 24] w = p_bnd scr 107 161 164 [.ref 24, .int x1, .int x2, .int x3, .long y4, p_U, p_U, p_U] [] (p_ev none 106 0 [.ref 24, .int s0] [] w)) ∧
  (∀ (scr : pX) (w : pW) (x1 : Int32) (x2 : Int32) (x3 : Int32) (y4 : Int64) (t0 : Int64), p_ev scr 107 164 [.ref 24, .int x1, .int x2, .int x3, .long y4, p_U, p_U, p_U] [.long t0] w = p_ev scr 107 165 [.ref 24, .int x1, .int x2, .int x3, .long y4, p_U, p_U, p_U] [.ref 24, .long t0] w) ∧
  (∀ (scr : pX) (w : pW) (x1 : Int32) (x2 : Int32) (x3 : Int32) (y4 : Int64) (t1 : Int64), p_ev scr 107 165 [.ref 24, .int x1, .int x2, .int x3, .long y4, p_U, p_U, p_U] [.ref 24, .long t1] w = p_ev scr 107 168 [.ref 24, .int x1, .int x2, .int x3, .long y4, p_U, p_U, p_U] [.ref 28, .long t1] w) ∧
  (∀ (scr : pX) (w : pW) (x1 : Int32) (x2 : Int32) (x3 : Int32) (y4 : Int64) (t1 : Int64), p_ev scr 107 168 [.ref 24, .int x1, .int x2, .int x3, .long y4, p_U, p_U, p_U] [.ref 28, .long t1] w = p_ev scr 107 169 [.ref 24, .int x1, .int x2, .int x3, .long y4, p_U, p_U, p_U] [.int x2, .ref 28, .long t1] w) ∧
  (∀ (scr : pX) (w : pW) (x1 : Int32) (x2 : Int32) (x3 : Int32) (y4 : Int64) (s0 : Int32) (t2 : Int64), p_out s0 16 = false → p_ev scr 107 169 [.ref 24, .int x1, .int x2, .int x3, .long y4, p_U, p_U, p_U] [.int s0, .ref 28, .long t2] w = p_ev scr 107 170 [.ref 24, .int x1, .int x2, .int x3, .long y4, p_U, p_U, p_U] [.long (w.2.1 28 s0.toNatClampNeg), .long t2] w) ∧
  (∀ (scr : pX) (w : pW) (x1 : Int32) (x2 : Int32) (x3 : Int32) (y4 : Int64) (t0 : Int64) (t1 : Int64), p_ev scr 107 170 [.ref 24, .int x1, .int x2, .int x3, .long y4, p_U, p_U, p_U] [.long t0, .long t1] w = p_ev scr 107 171 [.ref 24, .int x1, .int x2, .int x3, .long y4, p_U, p_U, p_U] [.long (t1 + t0)] w) ∧
  (∀ (scr : pX) (w : pW) (x1 : Int32) (x2 : Int32) (x3 : Int32) (y4 : Int64) (t0 : Int64), p_ev scr 107 171 [.ref 24, .int x1, .int x2, .int x3, .long y4, p_U, p_U, p_U] [.long t0] w = p_ev scr 107 173 [.ref 24, .int x1, .int x2, .int x3, .long y4, p_U, .long t0, p_U] [] w) ∧
  (∀ (scr : pX) (w : pW) (x1 : Int32) (x2 : Int32) (x3 : Int32) (y4 : Int64) (y6 : Int64), p_ev scr 107 173 [.ref 24, .int x1, .int x2, .int x3, .long y4, p_U, .long y6, p_U] [] w = p_ev scr 107 175 [.ref 24, .int x1, .int x2, .int x3, .long y4, p_U, .long y6, p_U] [.long y4] w) ∧
  (∀ (scr : pX) (w : pW) (x1 : Int32) (x2 : Int32) (x3 : Int32) (y4 : Int64) (y6 : Int64) (t0 : Int64), p_ev scr 107 175 [.ref 24, .int x1, .int x2, .int x3, .long y4, p_U, .long y6, p_U] [.long t0] w = p_ev scr 107 177 [.ref 24, .int x1, .int x2, .int x3, .long y4, p_U, .long y6, p_U] [.long y6, .long t0] w) ∧
  (∀ (scr : pX) (w : pW) (x1 : Int32) (x2 : Int32) (x3 : Int32) (y4 : Int64) (y6 : Int64) (t0 : Int64) (t1 : Int64), p_ev scr 107 177 [.ref 24, .int x1, .int x2, .int x3, .long y4, p_U, .long y6, p_U] [.long t0, .long t1] w = p_ev scr 107 178 [.ref 24, .int x1, .int x2, .int x3, .long y4, p_U, .long y6, p_U] [.long (t1 * t0)] w) ∧
  (∀ (scr : pX) (w : pW) (x1 : Int32) (x2 : Int32) (x3 : Int32) (y4 : Int64) (y6 : Int64) (t0 : Int64), p_ev scr 107 178 [.ref 24, .int x1, .int x2, .int x3, .long y4, p_U, .long y6, p_U] [.long t0] w = p_ev scr 107 181 [.ref 24, .int x1, .int x2, .int x3, .long y4, p_U, .long y6, p_U] [.long (lN 2048), .long t0] w) ∧
  (∀ (scr : pX) (w : pW) (x1 : Int32) (x2 : Int32) (x3 : Int32) (y4 : Int64) (y6 : Int64) (t0 : Int64) (t1 : Int64), p_ev scr 107 181 [.ref 24, .int x1, .int x2, .int x3, .long y4, p_U, .long y6, p_U] [.long t0, .long t1] w = p_ev scr 107 182 [.ref 24, .int x1, .int x2, .int x3, .long y4, p_U, .long y6, p_U] [.long (t1 + t0)] w) ∧
  (∀ (scr : pX) (w : pW) (x1 : Int32) (x2 : Int32) (x3 : Int32) (y4 : Int64) (y6 : Int64) (t0 : Int64), p_ev scr 107 182 [.ref 24, .int x1, .int x2, .int x3, .long y4, p_U, .long y6, p_U] [.long t0] w = p_ev scr 107 185 [.ref 24, .int x1, .int x2, .int x3, .long y4, p_U, .long y6, p_U] [.long (lN 4096), .long t0] w) ∧
  (∀ (scr : pX) (w : pW) (x1 : Int32) (x2 : Int32) (x3 : Int32) (y4 : Int64) (y6 : Int64) (t0 : Int64) (t1 : Int64), p_ev scr 107 185 [.ref 24, .int x1, .int x2, .int x3, .long y4, p_U, .long y6, p_U] [.long t0, .long t1] w = p_bnd scr 107 185 188 [.ref 24, .int x1, .int x2, .int x3, .long y4, p_U, .long y6, p_U] [] (p_ev none 99 0 [.long t1, p_U, .long t0, p_U] [] w)) ∧
  (∀ (scr : pX) (w : pW) (x1 : Int32) (x2 : Int32) (x3 : Int32) (y4 : Int64) (y6 : Int64) (t0 : Int64), p_ev scr 107 188 [.ref 24, .int x1, .int x2, .int x3, .long y4, p_U, .long y6, p_U] [.long t0] w = some (.inl (some (.long t0)), w, 0)) :=
  ⟨fun _ _ _ _ _ => p_r (by decide +kernel : p_at 107 0 = some (.aload_n 0)) rfl,
  fun _ _ _ _ _ => p_rgf (f := none) (by decide +kernel : p_at 107 1 = some (.getfield 80)) (by decide +kernel : p_fld (p_own 107) 80 = some (5, 3)) (rfl : p_ob 24 = some (.inr (5, [some 25, some 26, none, none, none, some 27, some 28, some 29, some 30, some 31, some 32, some 33, some 34, some 35, some 36, some 37, some 38, some 39, none, none, some 40]))) rfl,
  fun _ _ _ _ _ _ => p_rb1 (c := fun x => decide (¬ x = 0)) (off := 30) (by decide +kernel : p_at 107 4 = some (.ifCond .ne 30)) (by decide +kernel) rfl rfl rfl,
  fun _ _ _ _ _ => p_r (by decide +kernel : p_at 107 7 = some (.iload_n 1)) rfl,
  fun _ _ _ _ _ _ => p_rb1 (c := fun x => decide (¬ x = 0)) (off := 13) (by decide +kernel : p_at 107 8 = some (.ifCond .ne 13)) (by decide +kernel) rfl rfl rfl,
  fun _ _ _ _ _ => p_r (by decide +kernel : p_at 107 11 = some (.aload_n 0)) rfl,
  fun _ _ _ _ _ => p_rgf (f := some 27) (by decide +kernel : p_at 107 12 = some (.getfield 21)) (by decide +kernel : p_fld (p_own 107) 21 = some (5, 5)) (rfl : p_ob 24 = some (.inr (5, [some 25, some 26, none, none, none, some 27, some 28, some 29, some 30, some 31, some 32, some 33, some 34, some 35, some 36, some 37, some 38, some 39, none, none, some 40]))) rfl,
  fun _ _ _ _ _ => p_r (by decide +kernel : p_at 107 15 = some (.iload_n 2)) rfl,
  fun _ _ _ _ _ _ hp => p_rlald (by decide +kernel : p_at 107 16 = some (.laload)) (rfl : p_ob 27 = some (.inl (2, 16))) hp,
  fun _ _ _ _ _ _ => p_r (by decide +kernel : p_at 107 17 = some (.lneg)) rfl,
  fun _ _ _ _ _ _ => p_rgo (by decide +kernel : p_at 107 18 = some (.goto 15)) (by decide +kernel),
  fun _ _ _ _ _ => p_r (by decide +kernel : p_at 107 21 = some (.aload_n 0)) rfl,
  fun _ _ _ _ _ => p_rgf (f := some 28) (by decide +kernel : p_at 107 22 = some (.getfield 24)) (by decide +kernel : p_fld (p_own 107) 24 = some (5, 6)) (rfl : p_ob 24 = some (.inr (5, [some 25, some 26, none, none, none, some 27, some 28, some 29, some 30, some 31, some 32, some 33, some 34, some 35, some 36, some 37, some 38, some 39, none, none, some 40]))) rfl,
  fun _ _ _ _ _ => p_r (by decide +kernel : p_at 107 25 = some (.iload_n 2)) rfl,
  fun _ _ _ _ _ _ hp => p_rlald (by decide +kernel : p_at 107 26 = some (.laload)) (rfl : p_ob 28 = some (.inl (2, 16))) hp,
  fun _ _ _ _ _ _ => p_rldcJ (by decide +kernel : p_at 107 27 = some (.ldc2_w 70)) (by decide +kernel),
  fun _ _ _ _ _ _ _ => p_rcs (nl := 4) (by decide +kernel : p_at 107 30 = some (.invokestatic 83)) (by decide +kernel : p_inv (p_own 107) 83 = some (1, 99, 2)) (by decide +kernel) rfl rfl (Nat.le_of_ble_eq_true rfl) (Nat.le_of_ble_eq_true rfl) (Nat.le_of_ble_eq_true rfl) rfl,
  fun _ _ _ _ _ _ => p_rlret (by decide +kernel : p_at 107 33 = some (.lreturn)) (by decide +kernel),
  fun _ _ _ _ _ => p_r (by decide +kernel : p_at 107 34 = some (.aload_n 0)) rfl,
  fun _ _ _ _ _ => p_rgf (f := none) (by decide +kernel : p_at 107 35 = some (.getfield 80)) (by decide +kernel : p_fld (p_own 107) 80 = some (5, 3)) (rfl : p_ob 24 = some (.inr (5, [some 25, some 26, none, none, none, some 27, some 28, some 29, some 30, some 31, some 32, some 33, some 34, some 35, some 36, some 37, some 38, some 39, none, none, some 40]))) rfl,
  fun _ _ _ _ _ _ => p_r (by decide +kernel : p_at 107 38 = some (.iconst 1)) rfl,
  fun _ _ _ _ _ _ _ => p_rb2 (c := fun x y => decide (¬ x = y)) (off := 57) (by decide +kernel : p_at 107 39 = some (.if_icmp .ne 57)) (by decide +kernel) rfl rfl rfl,
  fun _ _ _ _ _ => p_r (by decide +kernel : p_at 107 42 = some (.iload_n 1)) rfl,
  fun _ _ _ _ _ _ => p_rb1 (c := fun x => decide (¬ x = 0)) (off := 28) (by decide +kernel : p_at 107 43 = some (.ifCond .ne 28)) (by decide +kernel) rfl rfl rfl,
  fun _ _ _ _ _ => p_r (by decide +kernel : p_at 107 46 = some (.aload_n 0)) rfl,
  fun _ _ _ _ _ => p_rgf (f := some 27) (by decide +kernel : p_at 107 47 = some (.getfield 21)) (by decide +kernel : p_fld (p_own 107) 21 = some (5, 5)) (rfl : p_ob 24 = some (.inr (5, [some 25, some 26, none, none, none, some 27, some 28, some 29, some 30, some 31, some 32, some 33, some 34, some 35, some 36, some 37, some 38, some 39, none, none, some 40]))) rfl,
  fun _ _ _ _ _ => p_r (by decide +kernel : p_at 107 50 = some (.iload_n 2)) rfl,
  fun _ _ _ _ _ _ hp => p_rlald (by decide +kernel : p_at 107 51 = some (.laload)) (rfl : p_ob 27 = some (.inl (2, 16))) hp,
  fun _ _ _ _ _ _ => p_r (by decide +kernel : p_at 107 52 = some (.aload_n 0)) rfl,
  fun _ _ _ _ _ _ => p_r (by decide +kernel : p_at 107 53 = some (.iload_n 2)) rfl,
  fun _ _ _ _ _ _ _ => p_r (by decide +kernel : p_at 107 54 = some (.iconst 1)) rfl,
  fun _ _ _ _ _ _ _ _ => p_r (by decide +kernel : p_at 107 55 = some (.iadd)) rfl,
  fun _ _ _ _ _ _ _ => p_r (by decide +kernel : p_at 107 56 = some (.iload_n 3)) rfl,
  fun _ _ _ _ _ _ _ _ => p_rcv (nl := 3) (by decide +kernel : p_at 107 57 = some (.invokevirtual 87)) (by decide +kernel : p_inv (p_own 107) 87 = some (1, 105, 3)) (by decide +kernel) (rfl : p_ob 24 = some (.inr (5, [some 25, some 26, none, none, none, some 27, some 28, some 29, some 30, some 31, some 32, some 33, some 34, some 35, some 36, some 37, some 38, some 39, none, none, some 40]))) rfl rfl (Nat.le_of_ble_eq_true rfl) (Nat.le_of_ble_eq_true rfl) (Nat.le_of_ble_eq_true rfl) rfl,
  fun _ _ _ _ _ _ _ => p_r (by decide +kernel : p_at 107 60 = some (.ladd)) rfl,
  fun _ _ _ _ _ _ => p_rldcJ (by decide +kernel : p_at 107 61 = some (.ldc2_w 70)) (by decide +kernel),
  fun _ _ _ _ _ _ _ => p_rcs (nl := 4) (by decide +kernel : p_at 107 64 = some (.invokestatic 83)) (by decide +kernel : p_inv (p_own 107) 83 = some (1, 99, 2)) (by decide +kernel) rfl rfl (Nat.le_of_ble_eq_true rfl) (Nat.le_of_ble_eq_true rfl) (Nat.le_of_ble_eq_true rfl) rfl,
  fun _ _ _ _ _ _ => p_r (by decide +kernel : p_at 107 67 = some (.lneg)) rfl,
  fun _ _ _ _ _ _ => p_rgo (by decide +kernel : p_at 107 68 = some (.goto 27)) (by decide +kernel),
  fun _ _ _ _ _ => p_r (by decide +kernel : p_at 107 71 = some (.aload_n 0)) rfl,
  fun _ _ _ _ _ => p_r (by decide +kernel : p_at 107 72 = some (.iload_n 2)) rfl,
  fun _ _ _ _ _ _ => p_r (by decide +kernel : p_at 107 73 = some (.iconst 1)) rfl,
  fun _ _ _ _ _ _ _ => p_r (by decide +kernel : p_at 107 74 = some (.isub)) rfl,
  fun _ _ _ _ _ _ => p_rcv (nl := 2) (by decide +kernel : p_at 107 75 = some (.invokevirtual 91)) (by decide +kernel : p_inv (p_own 107) 91 = some (1, 106, 2)) (by decide +kernel) (rfl : p_ob 24 = some (.inr (5, [some 25, some 26, none, none, none, some 27, some 28, some 29, some 30, some 31, some 32, some 33, some 34, some 35, some 36, some 37, some 38, some 39, none, none, some 40]))) rfl rfl (Nat.le_of_ble_eq_true rfl) (Nat.le_of_ble_eq_true rfl) (Nat.le_of_ble_eq_true rfl) rfl,
  fun _ _ _ _ _ _ => p_r (by decide +kernel : p_at 107 78 = some (.aload_n 0)) rfl,
  fun _ _ _ _ _ _ => p_rgf (f := some 28) (by decide +kernel : p_at 107 79 = some (.getfield 24)) (by decide +kernel : p_fld (p_own 107) 24 = some (5, 6)) (rfl : p_ob 24 = some (.inr (5, [some 25, some 26, none, none, none, some 27, some 28, some 29, some 30, some 31, some 32, some 33, some 34, some 35, some 36, some 37, some 38, some 39, none, none, some 40]))) rfl,
  fun _ _ _ _ _ _ => p_r (by decide +kernel : p_at 107 82 = some (.iload_n 2)) rfl,
  fun _ _ _ _ _ _ _ hp => p_rlald (by decide +kernel : p_at 107 83 = some (.laload)) (rfl : p_ob 28 = some (.inl (2, 16))) hp,
  fun _ _ _ _ _ _ _ => p_r (by decide +kernel : p_at 107 84 = some (.ladd)) rfl,
  fun _ _ _ _ _ _ => p_rldcJ (by decide +kernel : p_at 107 85 = some (.ldc2_w 70)) (by decide +kernel),
  fun _ _ _ _ _ _ _ => p_r (by decide +kernel : p_at 107 88 = some (.ladd)) rfl,
  fun _ _ _ _ _ _ => p_rldcJ (by decide +kernel : p_at 107 89 = some (.ldc2_w 95)) (by decide +kernel),
  fun _ _ _ _ _ _ _ => p_rcs (nl := 4) (by decide +kernel : p_at 107 92 = some (.invokestatic 83)) (by decide +kernel : p_inv (p_own 107) 83 = some (1, 99, 2)) (by decide +kernel) rfl rfl (Nat.le_of_ble_eq_true rfl) (Nat.le_of_ble_eq_true rfl) (Nat.le_of_ble_eq_true rfl) rfl,
  fun _ _ _ _ _ _ => p_rlret (by decide +kernel : p_at 107 95 = some (.lreturn)) (by decide +kernel),
  fun _ _ _ _ _ => p_r (by decide +kernel : p_at 107 96 = some (.iload_n 1)) rfl,
  fun _ _ _ _ _ _ => p_rb1 (c := fun x => decide (¬ x = 0)) (off := 9) (by decide +kernel : p_at 107 97 = some (.ifCond .ne 9)) (by decide +kernel) rfl rfl rfl,
  fun _ _ _ _ _ => p_rldcJ (by decide +kernel : p_at 107 100 = some (.ldc2_w 97)) (by decide +kernel),
  fun _ _ _ _ _ _ => p_rgo (by decide +kernel : p_at 107 103 = some (.goto 28)) (by decide +kernel),
  fun _ _ _ _ _ => p_r (by decide +kernel : p_at 107 106 = some (.iload_n 1)) rfl,
  fun _ _ _ _ _ _ => p_r (by decide +kernel : p_at 107 107 = some (.iconst 1)) rfl,
  fun _ _ _ _ _ _ _ => p_rb2 (c := fun x y => decide (¬ x = y)) (off := 9) (by decide +kernel : p_at 107 108 = some (.if_icmp .ne 9)) (by decide +kernel) rfl rfl rfl,
  fun _ _ _ _ _ => p_rldcJ (by decide +kernel : p_at 107 111 = some (.ldc2_w 99)) (by decide +kernel),
  fun _ _ _ _ _ _ => p_rgo (by decide +kernel : p_at 107 114 = some (.goto 17)) (by decide +kernel),
  fun _ _ _ _ _ => p_r (by decide +kernel : p_at 107 117 = some (.iload_n 1)) rfl,
  fun _ _ _ _ _ _ => p_r (by decide +kernel : p_at 107 118 = some (.iconst 2)) rfl,
  fun _ _ _ _ _ _ _ => p_rb2 (c := fun x y => decide (¬ x = y)) (off := 9) (by decide +kernel : p_at 107 119 = some (.if_icmp .ne 9)) (by decide +kernel) rfl rfl rfl,
  fun _ _ _ _ _ => p_rldcJ (by decide +kernel : p_at 107 122 = some (.ldc2_w 101)) (by decide +kernel),
  fun _ _ _ _ _ _ => p_rgo (by decide +kernel : p_at 107 125 = some (.goto 6)) (by decide +kernel),
  fun _ _ _ _ _ => p_rldcJ (by decide +kernel : p_at 107 128 = some (.ldc2_w 103)) (by decide +kernel),
  fun _ _ _ _ _ _ => p_r (by decide +kernel : p_at 107 131 = some (.lstore 4)) rfl,
  fun _ _ _ _ _ _ => p_r (by decide +kernel : p_at 107 133 = some (.iload_n 1)) rfl,
  fun _ _ _ _ _ _ _ => p_r (by decide +kernel : p_at 107 134 = some (.iconst 2)) rfl,
  fun _ _ _ _ _ _ _ _ hp => p_rirem (by decide +kernel : p_at 107 135 = some (.irem)) hp,
  fun _ _ _ _ _ _ _ => p_rb1 (c := fun x => decide (¬ x = 0)) (off := 21) (by decide +kernel : p_at 107 136 = some (.ifCond .ne 21)) (by decide +kernel) rfl rfl rfl,
  fun _ _ _ _ _ _ => p_r (by decide +kernel : p_at 107 139 = some (.aload_n 0)) rfl,
  fun _ _ _ _ _ _ => p_rgf (f := some 27) (by decide +kernel : p_at 107 140 = some (.getfield 21)) (by decide +kernel : p_fld (p_own 107) 21 = some (5, 5)) (rfl : p_ob 24 = some (.inr (5, [some 25, some 26, none, none, none, some 27, some 28, some 29, some 30, some 31, some 32, some 33, some 34, some 35, some 36, some 37, some 38, some 39, none, none, some 40]))) rfl,
  fun _ _ _ _ _ _ => p_r (by decide +kernel : p_at 107 143 = some (.iload_n 2)) rfl,
  fun _ _ _ _ _ _ _ hp => p_rlald (by decide +kernel : p_at 107 144 = some (.laload)) (rfl : p_ob 27 = some (.inl (2, 16))) hp,
  fun _ _ _ _ _ _ _ => p_r (by decide +kernel : p_at 107 145 = some (.aload_n 0)) rfl,
  fun _ _ _ _ _ _ _ => p_r (by decide +kernel : p_at 107 146 = some (.iload_n 2)) rfl,
  fun _ _ _ _ _ _ _ _ => p_r (by decide +kernel : p_at 107 147 = some (.iconst 1)) rfl,
  fun _ _ _ _ _ _ _ _ _ => p_r (by decide +kernel : p_at 107 148 = some (.iadd)) rfl,
  fun _ _ _ _ _ _ _ _ => p_r (by decide +kernel : p_at 107 149 = some (.iload_n 3)) rfl,
  fun _ _ _ _ _ _ _ _ _ => p_rcv (nl := 3) (by decide +kernel : p_at 107 150 = some (.invokevirtual 87)) (by decide +kernel : p_inv (p_own 107) 87 = some (1, 105, 3)) (by decide +kernel) (rfl : p_ob 24 = some (.inr (5, [some 25, some 26, none, none, none, some 27, some 28, some 29, some 30, some 31, some 32, some 33, some 34, some 35, some 36, some 37, some 38, some 39, none, none, some 40]))) rfl rfl (Nat.le_of_ble_eq_true rfl) (Nat.le_of_ble_eq_true rfl) (Nat.le_of_ble_eq_true rfl) rfl,
  fun _ _ _ _ _ _ _ _ => p_r (by decide +kernel : p_at 107 153 = some (.ladd)) rfl,
  fun _ _ _ _ _ _ _ => p_rgo (by decide +kernel : p_at 107 154 = some (.goto 17)) (by decide +kernel),
  fun _ _ _ _ _ _ => p_r (by decide +kernel : p_at 107 157 = some (.aload_n 0)) rfl,
  fun _ _ _ _ _ _ => p_r (by decide +kernel : p_at 107 158 = some (.iload_n 2)) rfl,
  fun _ _ _ _ _ _ _ => p_r (by decide +kernel : p_at 107 159 = some (.iconst 1)) rfl,
  fun _ _ _ _ _ _ _ _ => p_r (by decide +kernel : p_at 107 160 = some (.isub)) rfl,
  fun _ _ _ _ _ _ _ => p_rcv (nl := 2) (by decide +kernel : p_at 107 161 = some (.invokevirtual 91)) (by decide +kernel : p_inv (p_own 107) 91 = some (1, 106, 2)) (by decide +kernel) (rfl : p_ob 24 = some (.inr (5, [some 25, some 26, none, none, none, some 27, some 28, some 29, some 30, some 31, some 32, some 33, some 34, some 35, some 36, some 37, some 38, some 39, none, none, some 40]))) rfl rfl (Nat.le_of_ble_eq_true rfl) (Nat.le_of_ble_eq_true rfl) (Nat.le_of_ble_eq_true rfl) rfl,
  fun _ _ _ _ _ _ _ => p_r (by decide +kernel : p_at 107 164 = some (.aload_n 0)) rfl,
  fun _ _ _ _ _ _ _ => p_rgf (f := some 28) (by decide +kernel : p_at 107 165 = some (.getfield 24)) (by decide +kernel : p_fld (p_own 107) 24 = some (5, 6)) (rfl : p_ob 24 = some (.inr (5, [some 25, some 26, none, none, none, some 27, some 28, some 29, some 30, some 31, some 32, some 33, some 34, some 35, some 36, some 37, some 38, some 39, none, none, some 40]))) rfl,
  fun _ _ _ _ _ _ _ => p_r (by decide +kernel : p_at 107 168 = some (.iload_n 2)) rfl,
  fun _ _ _ _ _ _ _ _ hp => p_rlald (by decide +kernel : p_at 107 169 = some (.laload)) (rfl : p_ob 28 = some (.inl (2, 16))) hp,
  fun _ _ _ _ _ _ _ _ => p_r (by decide +kernel : p_at 107 170 = some (.ladd)) rfl,
  fun _ _ _ _ _ _ _ => p_r (by decide +kernel : p_at 107 171 = some (.lstore 6)) rfl,
  fun _ _ _ _ _ _ _ => p_r (by decide +kernel : p_at 107 173 = some (.lload 4)) rfl,
  fun _ _ _ _ _ _ _ _ => p_r (by decide +kernel : p_at 107 175 = some (.lload 6)) rfl,
  fun _ _ _ _ _ _ _ _ _ => p_r (by decide +kernel : p_at 107 177 = some (.lmul)) rfl,
  fun _ _ _ _ _ _ _ _ => p_rldcJ (by decide +kernel : p_at 107 178 = some (.ldc2_w 105)) (by decide +kernel),
  fun _ _ _ _ _ _ _ _ _ => p_r (by decide +kernel : p_at 107 181 = some (.ladd)) rfl,
  fun _ _ _ _ _ _ _ _ => p_rldcJ (by decide +kernel : p_at 107 182 = some (.ldc2_w 107)) (by decide +kernel),
  fun _ _ _ _ _ _ _ _ _ => p_rcs (nl := 4) (by decide +kernel : p_at 107 185 = some (.invokestatic 83)) (by decide +kernel : p_inv (p_own 107) 83 = some (1, 99, 2)) (by decide +kernel) rfl rfl (Nat.le_of_ble_eq_true rfl) (Nat.le_of_ble_eq_true rfl) (Nat.le_of_ble_eq_true rfl) rfl,
  fun _ _ _ _ _ _ _ _ => p_rlret (by decide +kernel : p_at 107 188 = some (.lreturn)) (by decide +kernel)⟩
-- 108: steps
theorem M108 :
  (∀ (scr : pX) (w : pW), p_ev scr 108 0 [.ref 24] [] w = p_ev scr 108 1 [.ref 24] [.ref 24] w) ∧
  (∀ (scr : pX) (w : pW), p_ev scr 108 1 [.ref 24] [.ref 24] w = p_ev scr 108 4 [.ref 24] [.int (w.1 24 3)] w) ∧
  (∀ (scr : pX) (w : pW) (s0 : Int32), p_ev scr 108 4 [.ref 24] [.int s0] w = p_ev scr 108 5 [.ref 24] [.int (nI 2), .int s0] w) ∧
  (∀ (scr : pX) (w : pW) (s0 : Int32) (s1 : Int32), p_ev scr 108 5 [.ref 24] [.int s0, .int s1] w = if ¬ s1 = s0 then p_ev scr 108 12 [.ref 24] [] w else p_ev scr 108 8 [.ref 24] [] w) ∧
  (∀ (scr : pX) (w : pW), p_ev scr 108 8 [.ref 24] [] w = p_ev scr 108 9 [.ref 24] [.int (nI 4)] w) ∧
  (∀ (scr : pX) (w : pW) (s0 : Int32), p_ev scr 108 9 [.ref 24] [.int s0] w = p_ev scr 108 13 [.ref 24] [.int s0] w) ∧
  (∀ (scr : pX) (w : pW), p_ev scr 108 12 [.ref 24] [] w = p_ev scr 108 13 [.ref 24] [.int (nI 2)] w) ∧
  (∀ (scr : pX) (w : pW) (s0 : Int32), p_ev scr 108 13 [.ref 24] [.int s0] w = some (.inl (some (.int s0)), w, 0)) :=
  ⟨fun _ _ => p_r (by decide +kernel : p_at 108 0 = some (.aload_n 0)) rfl,
  fun _ _ => p_rgf (f := none) (by decide +kernel : p_at 108 1 = some (.getfield 80)) (by decide +kernel : p_fld (p_own 108) 80 = some (5, 3)) (rfl : p_ob 24 = some (.inr (5, [some 25, some 26, none, none, none, some 27, some 28, some 29, some 30, some 31, some 32, some 33, some 34, some 35, some 36, some 37, some 38, some 39, none, none, some 40]))) rfl,
  fun _ _ _ => p_r (by decide +kernel : p_at 108 4 = some (.iconst 2)) rfl,
  fun _ _ _ _ => p_rb2 (c := fun x y => decide (¬ x = y)) (off := 7) (by decide +kernel : p_at 108 5 = some (.if_icmp .ne 7)) (by decide +kernel) rfl rfl rfl,
  fun _ _ => p_r (by decide +kernel : p_at 108 8 = some (.iconst 4)) rfl,
  fun _ _ _ => p_rgo (by decide +kernel : p_at 108 9 = some (.goto 4)) (by decide +kernel),
  fun _ _ => p_r (by decide +kernel : p_at 108 12 = some (.iconst 2)) rfl,
  fun _ _ _ => p_riret (by decide +kernel : p_at 108 13 = some (.ireturn)) (by decide +kernel)⟩
-- 109: step
theorem M109 :
  (∀ (scr : pX) (w : pW) (x1 : Int32) (x2 : Int32) (x3 : Int32), p_ev scr 109 0 [.ref 24, .int x1, .int x2, .int x3, p_U] [] w = p_ev scr 109 1 [.ref 24, .int x1, .int x2, .int x3, p_U] [.int (nI 0)] w) ∧
  (∀ (scr : pX) (w : pW) (x1 : Int32) (x2 : Int32) (x3 : Int32) (s0 : Int32), p_ev scr 109 1 [.ref 24, .int x1, .int x2, .int x3, p_U] [.int s0] w = p_ev scr 109 3 [.ref 24, .int x1, .int x2, .int x3, .int s0] [] w) ∧
  (∀ (scr : pX) (w : pW) (x1 : Int32) (x2 : Int32) (x3 : Int32) (x4 : Int32) (s0 : Int32), p_ev scr 109 5 [.ref 24, .int x1, .int x2, .int x3, .int x4] [.int s0] w = p_ev scr 109 6 [.ref 24, .int x1, .int x2, .int x3, .int x4] [.int x2, .int s0] w) ∧
  (∀ (scr : pX) (w : pW) (x1 : Int32) (x2 : Int32) (x3 : Int32) (x4 : Int32) (s0 : Int32) (s1 : Int32), p_ev scr 109 6 [.ref 24, .int x1, .int x2, .int x3, .int x4] [.int s0, .int s1] w = if s0 ≤ s1 then p_ev scr 109 66 [.ref 24, .int x1, .int x2, .int x3, .int x4] [] w else p_ev scr 109 9 [.ref 24, .int x1, .int x2, .int x3, .int x4] [] w) ∧
  (∀ (scr : pX) (w : pW) (x1 : Int32) (x2 : Int32) (x3 : Int32) (x4 : Int32), p_ev scr 109 9 [.ref 24, .int x1, .int x2, .int x3, .int x4] [] w = p_ev scr 109 10 [.ref 24, .int x1, .int x2, .int x3, .int x4] [.int x1] w) ∧
  (∀ (scr : pX) (w : pW) (x1 : Int32) (x2 : Int32) (x3 : Int32) (x4 : Int32) (s0 : Int32), p_ev scr 109 10 [.ref 24, .int x1, .int x2, .int x3, .int x4] [.int s0] w = p_ev scr 109 11 [.ref 24, .int x1, .int x2, .int x3, .int x4] [.int (nI 2), .int s0] w) ∧
  (∀ (scr : pX) (w : pW) (x1 : Int32) (x2 : Int32) (x3 : Int32) (x4 : Int32) (s0 : Int32) (s1 : Int32), ¬ s0 = 0 → p_ev scr 109 11 [.ref 24, .int x1, .int x2, .int x3, .int x4] [.int s0, .int s1] w = p_ev scr 109 12 [.ref 24, .int x1, .int x2, .int x3, .int x4] [.int (s1 - s1 / s0 * s0)] w) ∧
  (∀ (scr : pX) (w : pW) (x1 : Int32) (x2 : Int32) (x3 : Int32) (x4 : Int32) (s0 : Int32), p_ev scr 109 12 [.ref 24, .int x1, .int x2, .int x3, .int x4] [.int s0] w = if ¬ s0 = nI 0 then p_ev scr 109 39 [.ref 24, .int x1, .int x2, .int x3, .int x4] [] w else p_ev scr 109 15 [.ref 24, .int x1, .int x2, .int x3, .int x4] [] w) ∧
  (∀ (scr : pX) (w : pW) (x1 : Int32) (x2 : Int32) (x3 : Int32) (x4 : Int32), p_ev scr 109 15 [.ref 24, .int x1, .int x2, .int x3, .int x4] [] w = p_ev scr 109 16 [.ref 24, .int x1, .int x2, .int x3, .int x4] [.ref 24] w) ∧
  (∀ (scr : pX) (w : pW) (x1 : Int32) (x2 : Int32) (x3 : Int32) (x4 : Int32), p_ev scr 109 16 [.ref 24, .int x1, .int x2, .int x3, .int x4] [.ref 24] w = p_ev scr 109 19 [.ref 24, .int x1, .int x2, .int x3, .int x4] [.ref 28] w) ∧
  (∀ (scr : pX) (w : pW) (x1 : Int32) (x2 : Int32) (x3 : Int32) (x4 : Int32), p_ev scr 109 19 [.ref 24, .int x1, .int x2, .int x3, .int x4] [.ref 28] w = p_ev scr 109 21 [.ref 24, .int x1, .int x2, .int x3, .int x4] [.int x4, .ref 28] w) ∧
  (∀ (scr : pX) (w : pW) (x1 : Int32) (x2 : Int32) (x3 : Int32) (x4 : Int32) (s0 : Int32), p_ev scr 109 21 [.ref 24, .int x1, .int x2, .int x3, .int x4] [.int s0, .ref 28] w = p_ev scr 109 22 [.ref 24, .int x1, .int x2, .int x3, .int x4] [.int s0, .ref 28, .int s0, .ref 28] w) ∧
  (∀ (scr : pX) (w : pW) (x1 : Int32) (x2 : Int32) (x3 : Int32) (x4 : Int32) (s0 : Int32) (s2 : Int32), p_out s0 16 = false → p_ev scr 109 22 [.ref 24, .int x1, .int x2, .int x3, .int x4] [.int s0, .ref 28, .int s2, .ref 28] w = p_ev scr 109 23 [.ref 24, .int x1, .int x2, .int x3, .int x4] [.long (w.2.1 28 s0.toNatClampNeg), .int s2, .ref 28] w) ∧
  (∀ (scr : pX) (w : pW) (x1 : Int32) (x2 : Int32) (x3 : Int32) (x4 : Int32) (t0 : Int64) (s1 : Int32), p_ev scr 109 23 [.ref 24, .int x1, .int x2, .int x3, .int x4] [.long t0, .int s1, .ref 28] w = p_ev scr 109 24 [.ref 24, .int x1, .int x2, .int x3, .int x4] [.int x3, .long t0, .int s1, .ref 28] w) ∧
  (∀ (scr : pX) (w : pW) (x1 : Int32) (x2 : Int32) (x3 : Int32) (x4 : Int32) (s0 : Int32) (t1 : Int64) (s2 : Int32), p_ev scr 109 24 [.ref 24, .int x1, .int x2, .int x3, .int x4] [.int s0, .long t1, .int s2, .ref 28] w = p_ev scr 109 25 [.ref 24, .int x1, .int x2, .int x3, .int x4] [.long s0.toInt64, .long t1, .int s2, .ref 28] w) ∧
  (∀ (scr : pX) (w : pW) (x1 : Int32) (x2 : Int32) (x3 : Int32) (x4 : Int32) (t0 : Int64) (t1 : Int64) (s2 : Int32), p_ev scr 109 25 [.ref 24, .int x1, .int x2, .int x3, .int x4] [.long t0, .long t1, .int s2, .ref 28] w = p_ev scr 109 26 [.ref 24, .int x1, .int x2, .int x3, .int x4] [.ref 24, .long t0, .long t1, .int s2, .ref 28] w) ∧
  (∀ (scr : pX) (w : pW) (x1 : Int32) (x2 : Int32) (x3 : Int32) (x4 : Int32) (t1 : Int64) (t2 : Int64) (s3 : Int32), p_ev scr 109 26 [.ref 24, .int x1, .int x2, .int x3, .int x4] [.ref 24, .long t1, .long t2, .int s3, .ref 28] w = p_ev scr 109 27 [.ref 24, .int x1, .int x2, .int x3, .int x4] [.int x1, .ref 24, .long t1, .long t2, .int s3, .ref 28] w) ∧
  (∀ (scr : pX) (w : pW) (x1 : Int32) (x2 : Int32) (x3 : Int32) (x4 : Int32) (s0 : Int32) (t2 : Int64) (t3 : Int64) (s4 : Int32), p_ev scr 109 27 [.ref 24, .int x1, .int x2, .int x3, .int x4] [.int s0, .ref 24, .long t2, .long t3, .int s4, .ref 28] w = p_ev scr 109 29 [.ref 24, .int x1, .int x2, .int x3, .int x4] [.int x4, .int s0, .ref 24, .long t2, .long t3, .int s4, .ref 28] w) ∧
  (∀ (scr : pX) (w : pW) (x1 : Int32) (x2 : Int32) (x3 : Int32) (x4 : Int32) (s0 : Int32) (s1 : Int32) (t3 : Int64) (t4 : Int64) (s5 : Int32), p_ev scr 109 29 [.ref 24, .int x1, .int x2, .int x3, .int x4] [.int s0, .int s1, .ref 24, .long t3, .long t4, .int s5, .ref 28] w = p_ev scr 109 30 [.ref 24, .int x1, .int x2, .int x3, .int x4] [.int x2, .int s0, .int s1, .ref 24, .long t3, .long t4, .int s5, .ref 28] w) ∧
  (∀ (scr : pX) (w : pW) (x1 : Int32) (x2 : Int32) (x3 : Int32) (x4 : Int32) (s0 : Int32) (s1 : Int32) (s2 : Int32) (t4 : Int64) (t5 : Int64) (s6 : Int32), p_ev scr 109 30 [.ref 24, .int x1, .int x2, .int x3, .int x4] [.int s0, .int s1, .int s2, .ref 24, .long t4, .long t5, .int s6, .ref 28] w = p_bnd scr 109 30 33 [.ref 24, .int x1, .int x2, .int x3, .int x4] [.long t4, .long t5, .int s6, .ref 28] (p_ev none 107 0 [.ref 24, .int s2, .int s1, .int s0, p_U, p_U, p_U, p_U] [] w)) ∧
  (∀ (scr : pX) (w : pW) (x1 : Int32) (x2 : Int32) (x3 : Int32) (x4 : Int32) (t0 : Int64) (t1 : Int64) (t2 : Int64) (s3 : Int32), p_ev scr 109 33 [.ref 24, .int x1, .int x2, .int x3, .int x4] [.long t0, .long t1, .long t2, .int s3, .ref 28] w = p_ev scr 109 34 [.ref 24, .int x1, .int x2, .int x3, .int x4] [.long (t1 * t0), .long t2, .int s3, .ref 28] w) ∧
  (∀ (scr : pX) (w : pW) (x1 : Int32) (x2 : Int32) (x3 : Int32) (x4 : Int32) (t0 : Int64) (t1 : Int64) (s2 : Int32), p_ev scr 109 34 [.ref 24, .int x1, .int x2, .int x3, .int x4] [.long t0, .long t1, .int s2, .ref 28] w = p_ev scr 109 35 [.ref 24, .int x1, .int x2, .int x3, .int x4] [.long (t1 + t0), .int s2, .ref 28] w) ∧
  (∀ (scr : pX) (w : pW) (x1 : Int32) (x2 : Int32) (x3 : Int32) (x4 : Int32) (t0 : Int64) (s1 : Int32), p_out s1 16 = false → p_ev scr 109 35 [.ref 24, .int x1, .int x2, .int x3, .int x4] [.long t0, .int s1, .ref 28] w = p_ev scr 109 36 [.ref 24, .int x1, .int x2, .int x3, .int x4] [] (w.1, p_u w.2.1 28 s1.toNatClampNeg t0, w.2.2)) ∧
  (∀ (scr : pX) (w : pW) (x1 : Int32) (x2 : Int32) (x3 : Int32) (x4 : Int32), p_ev scr 109 36 [.ref 24, .int x1, .int x2, .int x3, .int x4] [] w = p_ev scr 109 60 [.ref 24, .int x1, .int x2, .int x3, .int x4] [] w) ∧
  (∀ (scr : pX) (w : pW) (x1 : Int32) (x2 : Int32) (x3 : Int32) (x4 : Int32), p_ev scr 109 39 [.ref 24, .int x1, .int x2, .int x3, .int x4] [] w = p_ev scr 109 40 [.ref 24, .int x1, .int x2, .int x3, .int x4] [.ref 24] w) ∧
  (∀ (scr : pX) (w : pW) (x1 : Int32) (x2 : Int32) (x3 : Int32) (x4 : Int32), p_ev scr 109 40 [.ref 24, .int x1, .int x2, .int x3, .int x4] [.ref 24] w = p_ev scr 109 43 [.ref 24, .int x1, .int x2, .int x3, .int x4] [.ref 27] w) ∧
  (∀ (scr : pX) (w : pW) (x1 : Int32) (x2 : Int32) (x3 : Int32) (x4 : Int32), p_ev scr 109 43 [.ref 24, .int x1, .int x2, .int x3, .int x4] [.ref 27] w = p_ev scr 109 45 [.ref 24, .int x1, .int x2, .int x3, .int x4] [.int x4, .ref 27] w) ∧
  (∀ (scr : pX) (w : pW) (x1 : Int32) (x2 : Int32) (x3 : Int32) (x4 : Int32) (s0 : Int32), p_ev scr 109 45 [.ref 24, .int x1, .int x2, .int x3, .int x4] [.int s0, .ref 27] w = p_ev scr 109 46 [.ref 24, .int x1, .int x2, .int x3, .int x4] [.int s0, .ref 27, .int s0, .ref 27] w) ∧
  (∀ (scr : pX) (w : pW) (x1 : Int32) (x2 : Int32) (x3 : Int32) (x4 : Int32) (s0 : Int32) (s2 : Int32), p_out s0 16 = false → p_ev scr 109 46 [.ref 24, .int x1, .int x2, .int x3, .int x4] [.int s0, .ref 27, .int s2, .ref 27] w = p_ev scr 109 47 [.ref 24, .int x1, .int x2, .int x3, .int x4] [.long (w.2.1 27 s0.toNatClampNeg), .int s2, .ref 27] w) ∧
  (∀ (scr : pX) (w : pW) (x1 : Int32) (x2 : Int32) (x3 : Int32) (x4 : Int32) (t0 : Int64) (s1 : Int32), p_ev scr 109 47 [.ref 24, .int x1, .int x2, .int x3, .int x4] [.long t0, .int s1, .ref 27] w = p_ev scr 109 48 [.ref 24, .int x1, .int x2, .int x3, .int x4] [.int x3, .long t0, .int s1, .ref 27] w) ∧
  (∀ (scr : pX) (w : pW) (x1 : Int32) (x2 : Int32) (x3 : Int32) (x4 : Int32) (s0 : Int32) (t1 : Int64) (s2 : Int32), p_ev scr 109 48 [.ref 24, .int x1, .int x2, .int x3, .int x4] [.int s0, .long t1, .int s2, .ref 27] w = p_ev scr 109 49 [.ref 24, .int x1, .int x2, .int x3, .int x4] [.long s0.toInt64, .long t1, .int s2, .ref 27] w) ∧
  (∀ (scr : pX) (w : pW) (x1 : Int32) (x2 : Int32) (x3 : Int32) (x4 : Int32) (t0 : Int64) (t1 : Int64) (s2 : Int32), p_ev scr 109 49 [.ref 24, .int x1, .int x2, .int x3, .int x4] [.long t0, .long t1, .int s2, .ref 27] w = p_ev scr 109 50 [.ref 24, .int x1, .int x2, .int x3, .int x4] [.ref 24, .long t0, .long t1, .int s2, .ref 27] w) ∧
  (∀ (scr : pX) (w : pW) (x1 : Int32) (x2 : Int32) (x3 : Int32) (x4 : Int32) (t1 : Int64) (t2 : Int64) (s3 : Int32), p_ev scr 109 50 [.ref 24, .int x1, .int x2, .int x3, .int x4] [.ref 24, .long t1, .long t2, .int s3, .ref 27] w = p_ev scr 109 51 [.ref 24, .int x1, .int x2, .int x3, .int x4] [.int x1, .ref 24, .long t1, .long t2, .int s3, .ref 27] w) ∧
  (∀ (scr : pX) (w : pW) (x1 : Int32) (x2 : Int32) (x3 : Int32) (x4 : Int32) (s0 : Int32) (t2 : Int64) (t3 : Int64) (s4 : Int32), p_ev scr 109 51 [.ref 24, .int x1, .int x2, .int x3, .int x4] [.int s0, .ref 24, .long t2, .long t3, .int s4, .ref 27] w = p_ev scr 109 53 [.ref 24, .int x1, .int x2, .int x3, .int x4] [.int x4, .int s0, .ref 24, .long t2, .long t3, .int s4, .ref 27] w) ∧
  (∀ (scr : pX) (w : pW) (x1 : Int32) (x2 : Int32) (x3 : Int32) (x4 : Int32) (s0 : Int32) (s1 : Int32) (t3 : Int64) (t4 : Int64) (s5 : Int32), p_ev scr 109 53 [.ref 24, .int x1, .int x2, .int x3, .int x4] [.int s0, .int s1, .ref 24, .long t3, .long t4, .int s5, .ref 27] w = p_ev scr 109 54 [.ref 24, .int x1, .int x2, .int x3, .int x4] [.int x2, .int s0, .int s1, .ref 24, .long t3, .long t4, .int s5, .ref 27] w) ∧
  (∀ (scr : pX) (w : pW) (x1 : Int32) (x2 : Int32) (x3 : Int32) (x4 : Int32) (s0 : Int32) (s1 : Int32) (s2 : Int32) (t4 : Int64) (t5 : Int64) (s6 : Int32), p_ev scr 109 54 [.ref 24, .int x1, .int x2, .int x3, .int x4] [.int s0, .int s1, .int s2, .ref 24, .long t4, .long t5, .int s6, .ref 27] w = p_bnd scr 109 54 57 [.ref 24, .int x1, .int x2, .int x3, .int x4] [.long t4, .long t5, .int s6, .ref 27] (p_ev none 107 0 [.ref 24, .int s2, .int s1, .int s0, p_U, p_U, p_U, p_U] [] w)) ∧
  (∀ (scr : pX) (w : pW) (x1 : Int32) (x2 : Int32) (x3 : Int32) (x4 : Int32) (t0 : Int64) (t1 : Int64) (t2 : Int64) (s3 : Int32), p_ev scr 109 57 [.ref 24, .int x1, .int x2, .int x3, .int x4] [.long t0, .long t1, .long t2, .int s3, .ref 27] w = p_ev scr 109 58 [.ref 24, .int x1, .int x2, .int x3, .int x4] [.long (t1 * t0), .long t2, .int s3, .ref 27] w) ∧
  (∀ (scr : pX) (w : pW) (x1 : Int32) (x2 : Int32) (x3 : Int32) (x4 : Int32) (t0 : Int64) (t1 : Int64) (s2 : Int32), p_ev scr 109 58 [.ref 24, .int x1, .int x2, .int x3, .int x4] [.long t0, .long t1, .int s2, .ref 27] w = p_ev scr 109 59 [.ref 24, .int x1, .int x2, .int x3, .int x4] [.long (t1 + t0), .int s2, .ref 27] w) ∧
  (∀ (scr : pX) (w : pW) (x1 : Int32) (x2 : Int32) (x3 : Int32) (x4 : Int32) (t0 : Int64) (s1 : Int32), p_out s1 16 = false → p_ev scr 109 59 [.ref 24, .int x1, .int x2, .int x3, .int x4] [.long t0, .int s1, .ref 27] w = p_ev scr 109 60 [.ref 24, .int x1, .int x2, .int x3, .int x4] [] (w.1, p_u w.2.1 27 s1.toNatClampNeg t0, w.2.2)) ∧
  (∀ (scr : pX) (w : pW) (x1 : Int32) (x2 : Int32) (x3 : Int32) (x4 : Int32), p_ev scr 109 60 [.ref 24, .int x1, .int x2, .int x3, .int x4] [] w = p_ev scr 109 63 [.ref 24, .int x1, .int x2, .int x3, .int (x4 + (nI 1))] [] w) ∧
  (∀ (scr : pX) (w : pW) (x1 : Int32) (x2 : Int32) (x3 : Int32) (x4 : Int32), p_ev scr 109 63 [.ref 24, .int x1, .int x2, .int x3, .int x4] [] w = p_ev scr 109 3 [.ref 24, .int x1, .int x2, .int x3, .int x4] [] w) ∧
  (∀ (scr : pX) (w : pW) (x1 : Int32) (x2 : Int32) (x3 : Int32) (x4 : Int32), p_ev scr 109 66 [.ref 24, .int x1, .int x2, .int x3, .int x4] [] w = some (.inl none, w, 0)) :=
  ⟨fun _ _ _ _ _ => p_r (by decide +kernel : p_at 109 0 = some (.iconst 0)) rfl,
  fun _ _ _ _ _ _ => p_r (by decide +kernel : p_at 109 1 = some (.istore 4)) rfl,
  fun _ _ _ _ _ _ _ => p_r (by decide +kernel : p_at 109 5 = some (.iload_n 2)) rfl,
  fun _ _ _ _ _ _ _ _ => p_rb2 (c := fun x y => decide (y ≤ x)) (off := 60) (by decide +kernel : p_at 109 6 = some (.if_icmp .ge 60)) (by decide +kernel) rfl rfl rfl,
  fun _ _ _ _ _ _ => p_r (by decide +kernel : p_at 109 9 = some (.iload_n 1)) rfl,
  fun _ _ _ _ _ _ _ => p_r (by decide +kernel : p_at 109 10 = some (.iconst 2)) rfl,
  fun _ _ _ _ _ _ _ _ hp => p_rirem (by decide +kernel : p_at 109 11 = some (.irem)) hp,
  fun _ _ _ _ _ _ _ => p_rb1 (c := fun x => decide (¬ x = 0)) (off := 27) (by decide +kernel : p_at 109 12 = some (.ifCond .ne 27)) (by decide +kernel) rfl rfl rfl,
  fun _ _ _ _ _ _ => p_r (by decide +kernel : p_at 109 15 = some (.aload_n 0)) rfl,
  fun _ _ _ _ _ _ => p_rgf (f := some 28) (by decide +kernel : p_at 109 16 = some (.getfield 24)) (by decide +kernel : p_fld (p_own 109) 24 = some (5, 6)) (rfl : p_ob 24 = some (.inr (5, [some 25, some 26, none, none, none, some 27, some 28, some 29, some 30, some 31, some 32, some 33, some 34, some 35, some 36, some 37, some 38, some 39, none, none, some 40]))) rfl,
  fun _ _ _ _ _ _ => p_r (by decide +kernel : p_at 109 19 = some (.iload 4)) rfl,
  fun _ _ _ _ _ _ _ => p_r (by decide +kernel : p_at 109 21 = some (.dup2)) rfl,
  fun _ _ _ _ _ _ _ _ hp => p_rlald (by decide +kernel : p_at 109 22 = some (.laload)) (rfl : p_ob 28 = some (.inl (2, 16))) hp,
  fun _ _ _ _ _ _ _ _ => p_r (by decide +kernel : p_at 109 23 = some (.iload_n 3)) rfl,
  fun _ _ _ _ _ _ _ _ _ => p_r (by decide +kernel : p_at 109 24 = some (.i2l)) rfl,
  fun _ _ _ _ _ _ _ _ _ => p_r (by decide +kernel : p_at 109 25 = some (.aload_n 0)) rfl,
  fun _ _ _ _ _ _ _ _ _ => p_r (by decide +kernel : p_at 109 26 = some (.iload_n 1)) rfl,
  fun _ _ _ _ _ _ _ _ _ _ => p_r (by decide +kernel : p_at 109 27 = some (.iload 4)) rfl,
  fun _ _ _ _ _ _ _ _ _ _ _ => p_r (by decide +kernel : p_at 109 29 = some (.iload_n 2)) rfl,
  fun _ _ _ _ _ _ _ _ _ _ _ _ => p_rcv (nl := 8) (by decide +kernel : p_at 109 30 = some (.invokevirtual 109)) (by decide +kernel : p_inv (p_own 109) 109 = some (1, 107, 4)) (by decide +kernel) (rfl : p_ob 24 = some (.inr (5, [some 25, some 26, none, none, none, some 27, some 28, some 29, some 30, some 31, some 32, some 33, some 34, some 35, some 36, some 37, some 38, some 39, none, none, some 40]))) rfl rfl (Nat.le_of_ble_eq_true rfl) (Nat.le_of_ble_eq_true rfl) (Nat.le_of_ble_eq_true rfl) rfl,
  fun _ _ _ _ _ _ _ _ _ _ => p_r (by decide +kernel : p_at 109 33 = some (.lmul)) rfl,
  fun _ _ _ _ _ _ _ _ _ => p_r (by decide +kernel : p_at 109 34 = some (.ladd)) rfl,
  fun _ _ _ _ _ _ _ _ hp => p_rlast (by decide +kernel : p_at 109 35 = some (.lastore)) (rfl : p_ob 28 = some (.inl (2, 16))) hp,
  fun _ _ _ _ _ _ => p_rgo (by decide +kernel : p_at 109 36 = some (.goto 24)) (by decide +kernel),
  fun _ _ _ _ _ _ => p_r (by decide +kernel : p_at 109 39 = some (.aload_n 0)) rfl,
  fun _ _ _ _ _ _ => p_rgf (f := some 27) (by decide +kernel : p_at 109 40 = some (.getfield 21)) (by decide +kernel : p_fld (p_own 109) 21 = some (5, 5)) (rfl : p_ob 24 = some (.inr (5, [some 25, some 26, none, none, none, some 27, some 28, some 29, some 30, some 31, some 32, some 33, some 34, some 35, some 36, some 37, some 38, some 39, none, none, some 40]))) rfl,
  fun _ _ _ _ _ _ => p_r (by decide +kernel : p_at 109 43 = some (.iload 4)) rfl,
  fun _ _ _ _ _ _ _ => p_r (by decide +kernel : p_at 109 45 = some (.dup2)) rfl,
  fun _ _ _ _ _ _ _ _ hp => p_rlald (by decide +kernel : p_at 109 46 = some (.laload)) (rfl : p_ob 27 = some (.inl (2, 16))) hp,
  fun _ _ _ _ _ _ _ _ => p_r (by decide +kernel : p_at 109 47 = some (.iload_n 3)) rfl,
  fun _ _ _ _ _ _ _ _ _ => p_r (by decide +kernel : p_at 109 48 = some (.i2l)) rfl,
  fun _ _ _ _ _ _ _ _ _ => p_r (by decide +kernel : p_at 109 49 = some (.aload_n 0)) rfl,
  fun _ _ _ _ _ _ _ _ _ => p_r (by decide +kernel : p_at 109 50 = some (.iload_n 1)) rfl,
  fun _ _ _ _ _ _ _ _ _ _ => p_r (by decide +kernel : p_at 109 51 = some (.iload 4)) rfl,
  fun _ _ _ _ _ _ _ _ _ _ _ => p_r (by decide +kernel : p_at 109 53 = some (.iload_n 2)) rfl,
  fun _ _ _ _ _ _ _ _ _ _ _ _ => p_rcv (nl := 8) (by decide +kernel : p_at 109 54 = some (.invokevirtual 109)) (by decide +kernel : p_inv (p_own 109) 109 = some (1, 107, 4)) (by decide +kernel) (rfl : p_ob 24 = some (.inr (5, [some 25, some 26, none, none, none, some 27, some 28, some 29, some 30, some 31, some 32, some 33, some 34, some 35, some 36, some 37, some 38, some 39, none, none, some 40]))) rfl rfl (Nat.le_of_ble_eq_true rfl) (Nat.le_of_ble_eq_true rfl) (Nat.le_of_ble_eq_true rfl) rfl,
  fun _ _ _ _ _ _ _ _ _ _ => p_r (by decide +kernel : p_at 109 57 = some (.lmul)) rfl,
  fun _ _ _ _ _ _ _ _ _ => p_r (by decide +kernel : p_at 109 58 = some (.ladd)) rfl,
  fun _ _ _ _ _ _ _ _ hp => p_rlast (by decide +kernel : p_at 109 59 = some (.lastore)) (rfl : p_ob 27 = some (.inl (2, 16))) hp,
  fun _ _ _ _ _ _ => p_r (by decide +kernel : p_at 109 60 = some (.iinc 4 1)) rfl,
  fun _ _ _ _ _ _ => p_rgo (by decide +kernel : p_at 109 63 = some (.goto (-60))) (by decide +kernel),
  fun _ _ _ _ _ _ => p_rvret (by decide +kernel : p_at 109 66 = some (.return_)) (by decide +kernel)⟩
theorem H109_3 :
  (∀ (scr : pX) (w : pW) (x1 : Int32) (x2 : Int32) (x3 : Int32) (x4 : Int32), p_ev scr 109 3 [.ref 24, .int x1, .int x2, .int x3, .int x4] [] w = p_ev scr 109 5 [.ref 24, .int x1, .int x2, .int x3, .int x4] [.int x4] w) :=
  fun _ _ _ _ _ _ => p_r (by decide +kernel : p_at 109 3 = some (.iload 4)) rfl
-- 110: splitRow
theorem M110 (a : Nat) (ha : p_lg a) :
  (∀ (scr : pX) (w : pW) (x2 : Int32), p_ev scr 110 0 [.ref 24, .ref a, .int x2, p_U, p_U] [] w = p_ev scr 110 1 [.ref 24, .ref a, .int x2, p_U, p_U] [.ref 24] w) ∧
  (∀ (scr : pX) (w : pW) (x2 : Int32), p_ev scr 110 1 [.ref 24, .ref a, .int x2, p_U, p_U] [.ref 24] w = p_ev scr 110 2 [.ref 24, .ref a, .int x2, p_U, p_U] [.int x2, .ref 24] w) ∧
  (∀ (scr : pX) (w : pW) (x2 : Int32) (s0 : Int32), p_ev scr 110 2 [.ref 24, .ref a, .int x2, p_U, p_U] [.int s0, .ref 24] w = p_bnd scr 110 2 5 [.ref 24, .ref a, .int x2, p_U, p_U] [] (p_ev none 101 0 [.ref 24, .int s0, p_U, p_U] [] w)) ∧
  (∀ (scr : pX) (w : pW) (x2 : Int32) (s0 : Int32), p_ev scr 110 5 [.ref 24, .ref a, .int x2, p_U, p_U] [.int s0] w = p_ev scr 110 6 [.ref 24, .ref a, .int x2, p_U, p_U] [.int (nI 2), .int s0] w) ∧
  (∀ (scr : pX) (w : pW) (x2 : Int32) (s0 : Int32) (s1 : Int32), ¬ s0 = 0 → p_ev scr 110 6 [.ref 24, .ref a, .int x2, p_U, p_U] [.int s0, .int s1] w = p_ev scr 110 7 [.ref 24, .ref a, .int x2, p_U, p_U] [.int (s1 / s0)] w) ∧
  (∀ (scr : pX) (w : pW) (x2 : Int32) (s0 : Int32), p_ev scr 110 7 [.ref 24, .ref a, .int x2, p_U, p_U] [.int s0] w = p_ev scr 110 8 [.ref 24, .ref a, .int x2, .int s0, p_U] [] w) ∧
  (∀ (scr : pX) (w : pW) (x2 : Int32) (x3 : Int32), p_ev scr 110 8 [.ref 24, .ref a, .int x2, .int x3, p_U] [] w = p_ev scr 110 9 [.ref 24, .ref a, .int x2, .int x3, p_U] [.int (nI 0)] w) ∧
  (∀ (scr : pX) (w : pW) (x2 : Int32) (x3 : Int32) (s0 : Int32), p_ev scr 110 9 [.ref 24, .ref a, .int x2, .int x3, p_U] [.int s0] w = p_ev scr 110 11 [.ref 24, .ref a, .int x2, .int x3, .int s0] [] w) ∧
  (∀ (scr : pX) (w : pW) (x2 : Int32) (x3 : Int32) (x4 : Int32) (s0 : Int32), p_ev scr 110 13 [.ref 24, .ref a, .int x2, .int x3, .int x4] [.int s0] w = p_ev scr 110 14 [.ref 24, .ref a, .int x2, .int x3, .int x4] [.int x3, .int s0] w) ∧
  (∀ (scr : pX) (w : pW) (x2 : Int32) (x3 : Int32) (x4 : Int32) (s0 : Int32) (s1 : Int32), p_ev scr 110 14 [.ref 24, .ref a, .int x2, .int x3, .int x4] [.int s0, .int s1] w = if s0 ≤ s1 then p_ev scr 110 61 [.ref 24, .ref a, .int x2, .int x3, .int x4] [] w else p_ev scr 110 17 [.ref 24, .ref a, .int x2, .int x3, .int x4] [] w) ∧
  (∀ (scr : pX) (w : pW) (x2 : Int32) (x3 : Int32) (x4 : Int32), p_ev scr 110 17 [.ref 24, .ref a, .int x2, .int x3, .int x4] [] w = p_ev scr 110 18 [.ref 24, .ref a, .int x2, .int x3, .int x4] [.ref 24] w) ∧
  (∀ (scr : pX) (w : pW) (x2 : Int32) (x3 : Int32) (x4 : Int32), p_ev scr 110 18 [.ref 24, .ref a, .int x2, .int x3, .int x4] [.ref 24] w = p_ev scr 110 21 [.ref 24, .ref a, .int x2, .int x3, .int x4] [.ref 27] w) ∧
  (∀ (scr : pX) (w : pW) (x2 : Int32) (x3 : Int32) (x4 : Int32), p_ev scr 110 21 [.ref 24, .ref a, .int x2, .int x3, .int x4] [.ref 27] w = p_ev scr 110 23 [.ref 24, .ref a, .int x2, .int x3, .int x4] [.int x4, .ref 27] w) ∧
  (∀ (scr : pX) (w : pW) (x2 : Int32) (x3 : Int32) (x4 : Int32) (s0 : Int32), p_ev scr 110 23 [.ref 24, .ref a, .int x2, .int x3, .int x4] [.int s0, .ref 27] w = p_ev scr 110 24 [.ref 24, .ref a, .int x2, .int x3, .int x4] [.ref a, .int s0, .ref 27] w) ∧
  (∀ (scr : pX) (w : pW) (x2 : Int32) (x3 : Int32) (x4 : Int32) (s1 : Int32), p_ev scr 110 24 [.ref 24, .ref a, .int x2, .int x3, .int x4] [.ref a, .int s1, .ref 27] w = p_ev scr 110 26 [.ref 24, .ref a, .int x2, .int x3, .int x4] [.int (nI 32), .ref a, .int s1, .ref 27] w) ∧
  (∀ (scr : pX) (w : pW) (x2 : Int32) (x3 : Int32) (x4 : Int32) (s0 : Int32) (s2 : Int32), p_ev scr 110 26 [.ref 24, .ref a, .int x2, .int x3, .int x4] [.int s0, .ref a, .int s2, .ref 27] w = p_ev scr 110 27 [.ref 24, .ref a, .int x2, .int x3, .int x4] [.int x2, .int s0, .ref a, .int s2, .ref 27] w) ∧
  (∀ (scr : pX) (w : pW) (x2 : Int32) (x3 : Int32) (x4 : Int32) (s0 : Int32) (s1 : Int32) (s3 : Int32), p_ev scr 110 27 [.ref 24, .ref a, .int x2, .int x3, .int x4] [.int s0, .int s1, .ref a, .int s3, .ref 27] w = p_ev scr 110 28 [.ref 24, .ref a, .int x2, .int x3, .int x4] [.int (s1 * s0), .ref a, .int s3, .ref 27] w) ∧
  (∀ (scr : pX) (w : pW) (x2 : Int32) (x3 : Int32) (x4 : Int32) (s0 : Int32) (s2 : Int32), p_ev scr 110 28 [.ref 24, .ref a, .int x2, .int x3, .int x4] [.int s0, .ref a, .int s2, .ref 27] w = p_ev scr 110 29 [.ref 24, .ref a, .int x2, .int x3, .int x4] [.int (nI 2), .int s0, .ref a, .int s2, .ref 27] w) ∧
  (∀ (scr : pX) (w : pW) (x2 : Int32) (x3 : Int32) (x4 : Int32) (s0 : Int32) (s1 : Int32) (s3 : Int32), p_ev scr 110 29 [.ref 24, .ref a, .int x2, .int x3, .int x4] [.int s0, .int s1, .ref a, .int s3, .ref 27] w = p_ev scr 110 31 [.ref 24, .ref a, .int x2, .int x3, .int x4] [.int x4, .int s0, .int s1, .ref a, .int s3, .ref 27] w) ∧
  (∀ (scr : pX) (w : pW) (x2 : Int32) (x3 : Int32) (x4 : Int32) (s0 : Int32) (s1 : Int32) (s2 : Int32) (s4 : Int32), p_ev scr 110 31 [.ref 24, .ref a, .int x2, .int x3, .int x4] [.int s0, .int s1, .int s2, .ref a, .int s4, .ref 27] w = p_ev scr 110 32 [.ref 24, .ref a, .int x2, .int x3, .int x4] [.int (s1 * s0), .int s2, .ref a, .int s4, .ref 27] w) ∧
  (∀ (scr : pX) (w : pW) (x2 : Int32) (x3 : Int32) (x4 : Int32) (s0 : Int32) (s1 : Int32) (s3 : Int32), p_ev scr 110 32 [.ref 24, .ref a, .int x2, .int x3, .int x4] [.int s0, .int s1, .ref a, .int s3, .ref 27] w = p_ev scr 110 33 [.ref 24, .ref a, .int x2, .int x3, .int x4] [.int (s1 + s0), .ref a, .int s3, .ref 27] w) ∧
  (∀ (scr : pX) (w : pW) (x2 : Int32) (x3 : Int32) (x4 : Int32) (s0 : Int32) (s2 : Int32), p_out s0 512 = false → p_ev scr 110 33 [.ref 24, .ref a, .int x2, .int x3, .int x4] [.int s0, .ref a, .int s2, .ref 27] w = p_ev scr 110 34 [.ref 24, .ref a, .int x2, .int x3, .int x4] [.long (w.2.1 a s0.toNatClampNeg), .int s2, .ref 27] w) ∧
  (∀ (scr : pX) (w : pW) (x2 : Int32) (x3 : Int32) (x4 : Int32) (t0 : Int64) (s1 : Int32), p_out s1 16 = false → p_ev scr 110 34 [.ref 24, .ref a, .int x2, .int x3, .int x4] [.long t0, .int s1, .ref 27] w = p_ev scr 110 35 [.ref 24, .ref a, .int x2, .int x3, .int x4] [] (w.1, p_u w.2.1 27 s1.toNatClampNeg t0, w.2.2)) ∧
  (∀ (scr : pX) (w : pW) (x2 : Int32) (x3 : Int32) (x4 : Int32), p_ev scr 110 35 [.ref 24, .ref a, .int x2, .int x3, .int x4] [] w = p_ev scr 110 36 [.ref 24, .ref a, .int x2, .int x3, .int x4] [.ref 24] w) ∧
  (∀ (scr : pX) (w : pW) (x2 : Int32) (x3 : Int32) (x4 : Int32), p_ev scr 110 36 [.ref 24, .ref a, .int x2, .int x3, .int x4] [.ref 24] w = p_ev scr 110 39 [.ref 24, .ref a, .int x2, .int x3, .int x4] [.ref 28] w) ∧
  (∀ (scr : pX) (w : pW) (x2 : Int32) (x3 : Int32) (x4 : Int32), p_ev scr 110 39 [.ref 24, .ref a, .int x2, .int x3, .int x4] [.ref 28] w = p_ev scr 110 41 [.ref 24, .ref a, .int x2, .int x3, .int x4] [.int x4, .ref 28] w) ∧
  (∀ (scr : pX) (w : pW) (x2 : Int32) (x3 : Int32) (x4 : Int32) (s0 : Int32), p_ev scr 110 41 [.ref 24, .ref a, .int x2, .int x3, .int x4] [.int s0, .ref 28] w = p_ev scr 110 42 [.ref 24, .ref a, .int x2, .int x3, .int x4] [.ref a, .int s0, .ref 28] w) ∧
  (∀ (scr : pX) (w : pW) (x2 : Int32) (x3 : Int32) (x4 : Int32) (s1 : Int32), p_ev scr 110 42 [.ref 24, .ref a, .int x2, .int x3, .int x4] [.ref a, .int s1, .ref 28] w = p_ev scr 110 44 [.ref 24, .ref a, .int x2, .int x3, .int x4] [.int (nI 32), .ref a, .int s1, .ref 28] w) ∧
  (∀ (scr : pX) (w : pW) (x2 : Int32) (x3 : Int32) (x4 : Int32) (s0 : Int32) (s2 : Int32), p_ev scr 110 44 [.ref 24, .ref a, .int x2, .int x3, .int x4] [.int s0, .ref a, .int s2, .ref 28] w = p_ev scr 110 45 [.ref 24, .ref a, .int x2, .int x3, .int x4] [.int x2, .int s0, .ref a, .int s2, .ref 28] w) ∧
  (∀ (scr : pX) (w : pW) (x2 : Int32) (x3 : Int32) (x4 : Int32) (s0 : Int32) (s1 : Int32) (s3 : Int32), p_ev scr 110 45 [.ref 24, .ref a, .int x2, .int x3, .int x4] [.int s0, .int s1, .ref a, .int s3, .ref 28] w = p_ev scr 110 46 [.ref 24, .ref a, .int x2, .int x3, .int x4] [.int (s1 * s0), .ref a, .int s3, .ref 28] w) ∧
  (∀ (scr : pX) (w : pW) (x2 : Int32) (x3 : Int32) (x4 : Int32) (s0 : Int32) (s2 : Int32), p_ev scr 110 46 [.ref 24, .ref a, .int x2, .int x3, .int x4] [.int s0, .ref a, .int s2, .ref 28] w = p_ev scr 110 47 [.ref 24, .ref a, .int x2, .int x3, .int x4] [.int (nI 2), .int s0, .ref a, .int s2, .ref 28] w) ∧
  (∀ (scr : pX) (w : pW) (x2 : Int32) (x3 : Int32) (x4 : Int32) (s0 : Int32) (s1 : Int32) (s3 : Int32), p_ev scr 110 47 [.ref 24, .ref a, .int x2, .int x3, .int x4] [.int s0, .int s1, .ref a, .int s3, .ref 28] w = p_ev scr 110 49 [.ref 24, .ref a, .int x2, .int x3, .int x4] [.int x4, .int s0, .int s1, .ref a, .int s3, .ref 28] w) ∧
  (∀ (scr : pX) (w : pW) (x2 : Int32) (x3 : Int32) (x4 : Int32) (s0 : Int32) (s1 : Int32) (s2 : Int32) (s4 : Int32), p_ev scr 110 49 [.ref 24, .ref a, .int x2, .int x3, .int x4] [.int s0, .int s1, .int s2, .ref a, .int s4, .ref 28] w = p_ev scr 110 50 [.ref 24, .ref a, .int x2, .int x3, .int x4] [.int (s1 * s0), .int s2, .ref a, .int s4, .ref 28] w) ∧
  (∀ (scr : pX) (w : pW) (x2 : Int32) (x3 : Int32) (x4 : Int32) (s0 : Int32) (s1 : Int32) (s3 : Int32), p_ev scr 110 50 [.ref 24, .ref a, .int x2, .int x3, .int x4] [.int s0, .int s1, .ref a, .int s3, .ref 28] w = p_ev scr 110 51 [.ref 24, .ref a, .int x2, .int x3, .int x4] [.int (s1 + s0), .ref a, .int s3, .ref 28] w) ∧
  (∀ (scr : pX) (w : pW) (x2 : Int32) (x3 : Int32) (x4 : Int32) (s0 : Int32) (s2 : Int32), p_ev scr 110 51 [.ref 24, .ref a, .int x2, .int x3, .int x4] [.int s0, .ref a, .int s2, .ref 28] w = p_ev scr 110 52 [.ref 24, .ref a, .int x2, .int x3, .int x4] [.int (nI 1), .int s0, .ref a, .int s2, .ref 28] w) ∧
  (∀ (scr : pX) (w : pW) (x2 : Int32) (x3 : Int32) (x4 : Int32) (s0 : Int32) (s1 : Int32) (s3 : Int32), p_ev scr 110 52 [.ref 24, .ref a, .int x2, .int x3, .int x4] [.int s0, .int s1, .ref a, .int s3, .ref 28] w = p_ev scr 110 53 [.ref 24, .ref a, .int x2, .int x3, .int x4] [.int (s1 + s0), .ref a, .int s3, .ref 28] w) ∧
  (∀ (scr : pX) (w : pW) (x2 : Int32) (x3 : Int32) (x4 : Int32) (s0 : Int32) (s2 : Int32), p_out s0 512 = false → p_ev scr 110 53 [.ref 24, .ref a, .int x2, .int x3, .int x4] [.int s0, .ref a, .int s2, .ref 28] w = p_ev scr 110 54 [.ref 24, .ref a, .int x2, .int x3, .int x4] [.long (w.2.1 a s0.toNatClampNeg), .int s2, .ref 28] w) ∧
  (∀ (scr : pX) (w : pW) (x2 : Int32) (x3 : Int32) (x4 : Int32) (t0 : Int64) (s1 : Int32), p_out s1 16 = false → p_ev scr 110 54 [.ref 24, .ref a, .int x2, .int x3, .int x4] [.long t0, .int s1, .ref 28] w = p_ev scr 110 55 [.ref 24, .ref a, .int x2, .int x3, .int x4] [] (w.1, p_u w.2.1 28 s1.toNatClampNeg t0, w.2.2)) ∧
  (∀ (scr : pX) (w : pW) (x2 : Int32) (x3 : Int32) (x4 : Int32), p_ev scr 110 55 [.ref 24, .ref a, .int x2, .int x3, .int x4] [] w = p_ev scr 110 58 [.ref 24, .ref a, .int x2, .int x3, .int (x4 + (nI 1))] [] w) ∧
  (∀ (scr : pX) (w : pW) (x2 : Int32) (x3 : Int32) (x4 : Int32), p_ev scr 110 58 [.ref 24, .ref a, .int x2, .int x3, .int x4] [] w = p_ev scr 110 11 [.ref 24, .ref a, .int x2, .int x3, .int x4] [] w) ∧
  (∀ (scr : pX) (w : pW) (x2 : Int32) (x3 : Int32) (x4 : Int32), p_ev scr 110 61 [.ref 24, .ref a, .int x2, .int x3, .int x4] [] w = p_ev scr 110 62 [.ref 24, .ref a, .int x2, .int x3, .int x4] [.int (nI 0)] w) ∧
  (∀ (scr : pX) (w : pW) (x2 : Int32) (x3 : Int32) (x4 : Int32) (s0 : Int32), p_ev scr 110 62 [.ref 24, .ref a, .int x2, .int x3, .int x4] [.int s0] w = p_ev scr 110 64 [.ref 24, .ref a, .int x2, .int x3, .int s0] [] w) ∧
  (∀ (scr : pX) (w : pW) (x2 : Int32) (x3 : Int32) (x4 : Int32) (s0 : Int32), p_ev scr 110 66 [.ref 24, .ref a, .int x2, .int x3, .int x4] [.int s0] w = p_ev scr 110 67 [.ref 24, .ref a, .int x2, .int x3, .int x4] [.ref 24, .int s0] w) ∧
  (∀ (scr : pX) (w : pW) (x2 : Int32) (x3 : Int32) (x4 : Int32) (s1 : Int32), p_ev scr 110 67 [.ref 24, .ref a, .int x2, .int x3, .int x4] [.ref 24, .int s1] w = p_bnd scr 110 67 70 [.ref 24, .ref a, .int x2, .int x3, .int x4] [.int s1] (p_ev none 108 0 [.ref 24] [] w)) ∧
  (∀ (scr : pX) (w : pW) (x2 : Int32) (x3 : Int32) (x4 : Int32) (s0 : Int32) (s1 : Int32), p_ev scr 110 70 [.ref 24, .ref a, .int x2, .int x3, .int x4] [.int s0, .int s1] w = if s0 ≤ s1 then p_ev scr 110 87 [.ref 24, .ref a, .int x2, .int x3, .int x4] [] w else p_ev scr 110 73 [.ref 24, .ref a, .int x2, .int x3, .int x4] [] w) ∧
  (∀ (scr : pX) (w : pW) (x2 : Int32) (x3 : Int32) (x4 : Int32), p_ev scr 110 73 [.ref 24, .ref a, .int x2, .int x3, .int x4] [] w = p_ev scr 110 74 [.ref 24, .ref a, .int x2, .int x3, .int x4] [.ref 24] w) ∧
  (∀ (scr : pX) (w : pW) (x2 : Int32) (x3 : Int32) (x4 : Int32), p_ev scr 110 74 [.ref 24, .ref a, .int x2, .int x3, .int x4] [.ref 24] w = p_ev scr 110 76 [.ref 24, .ref a, .int x2, .int x3, .int x4] [.int x4, .ref 24] w) ∧
  (∀ (scr : pX) (w : pW) (x2 : Int32) (x3 : Int32) (x4 : Int32) (s0 : Int32), p_ev scr 110 76 [.ref 24, .ref a, .int x2, .int x3, .int x4] [.int s0, .ref 24] w = p_ev scr 110 77 [.ref 24, .ref a, .int x2, .int x3, .int x4] [.int x3, .int s0, .ref 24] w) ∧
  (∀ (scr : pX) (w : pW) (x2 : Int32) (x3 : Int32) (x4 : Int32) (s0 : Int32) (s1 : Int32), p_ev scr 110 77 [.ref 24, .ref a, .int x2, .int x3, .int x4] [.int s0, .int s1, .ref 24] w = p_ev scr 110 78 [.ref 24, .ref a, .int x2, .int x3, .int x4] [.int (nI 1), .int s0, .int s1, .ref 24] w) ∧
  (∀ (scr : pX) (w : pW) (x2 : Int32) (x3 : Int32) (x4 : Int32) (s0 : Int32) (s1 : Int32) (s2 : Int32), p_ev scr 110 78 [.ref 24, .ref a, .int x2, .int x3, .int x4] [.int s0, .int s1, .int s2, .ref 24] w = p_bnd scr 110 78 81 [.ref 24, .ref a, .int x2, .int x3, .int x4] [] (p_ev none 109 0 [.ref 24, .int s2, .int s1, .int s0, p_U] [] w)) ∧
  (∀ (scr : pX) (w : pW) (x2 : Int32) (x3 : Int32) (x4 : Int32), p_ev scr 110 81 [.ref 24, .ref a, .int x2, .int x3, .int x4] [] w = p_ev scr 110 84 [.ref 24, .ref a, .int x2, .int x3, .int (x4 + (nI 1))] [] w) ∧
  (∀ (scr : pX) (w : pW) (x2 : Int32) (x3 : Int32) (x4 : Int32), p_ev scr 110 84 [.ref 24, .ref a, .int x2, .int x3, .int x4] [] w = p_ev scr 110 64 [.ref 24, .ref a, .int x2, .int x3, .int x4] [] w) ∧
  (∀ (scr : pX) (w : pW) (x2 : Int32) (x3 : Int32) (x4 : Int32), p_ev scr 110 87 [.ref 24, .ref a, .int x2, .int x3, .int x4] [] w = p_ev scr 110 88 [.ref 24, .ref a, .int x2, .int x3, .int x4] [.int (nI 0)] w) ∧
  (∀ (scr : pX) (w : pW) (x2 : Int32) (x3 : Int32) (x4 : Int32) (s0 : Int32), p_ev scr 110 88 [.ref 24, .ref a, .int x2, .int x3, .int x4] [.int s0] w = p_ev scr 110 90 [.ref 24, .ref a, .int x2, .int x3, .int s0] [] w) ∧
  (∀ (scr : pX) (w : pW) (x2 : Int32) (x3 : Int32) (x4 : Int32) (s0 : Int32), p_ev scr 110 92 [.ref 24, .ref a, .int x2, .int x3, .int x4] [.int s0] w = p_ev scr 110 93 [.ref 24, .ref a, .int x2, .int x3, .int x4] [.int x3, .int s0] w) ∧
  (∀ (scr : pX) (w : pW) (x2 : Int32) (x3 : Int32) (x4 : Int32) (s0 : Int32) (s1 : Int32), p_ev scr 110 93 [.ref 24, .ref a, .int x2, .int x3, .int x4] [.int s0, .int s1] w = if s0 ≤ s1 then p_ev scr 110 138 [.ref 24, .ref a, .int x2, .int x3, .int x4] [] w else p_ev scr 110 96 [.ref 24, .ref a, .int x2, .int x3, .int x4] [] w) ∧
  (∀ (scr : pX) (w : pW) (x2 : Int32) (x3 : Int32) (x4 : Int32), p_ev scr 110 96 [.ref 24, .ref a, .int x2, .int x3, .int x4] [] w = p_ev scr 110 97 [.ref 24, .ref a, .int x2, .int x3, .int x4] [.ref a] w) ∧
  (∀ (scr : pX) (w : pW) (x2 : Int32) (x3 : Int32) (x4 : Int32), p_ev scr 110 97 [.ref 24, .ref a, .int x2, .int x3, .int x4] [.ref a] w = p_ev scr 110 99 [.ref 24, .ref a, .int x2, .int x3, .int x4] [.int (nI 64), .ref a] w) ∧
  (∀ (scr : pX) (w : pW) (x2 : Int32) (x3 : Int32) (x4 : Int32) (s0 : Int32), p_ev scr 110 99 [.ref 24, .ref a, .int x2, .int x3, .int x4] [.int s0, .ref a] w = p_ev scr 110 100 [.ref 24, .ref a, .int x2, .int x3, .int x4] [.int x2, .int s0, .ref a] w) ∧
  (∀ (scr : pX) (w : pW) (x2 : Int32) (x3 : Int32) (x4 : Int32) (s0 : Int32) (s1 : Int32), p_ev scr 110 100 [.ref 24, .ref a, .int x2, .int x3, .int x4] [.int s0, .int s1, .ref a] w = p_ev scr 110 101 [.ref 24, .ref a, .int x2, .int x3, .int x4] [.int (s1 * s0), .ref a] w) ∧
  (∀ (scr : pX) (w : pW) (x2 : Int32) (x3 : Int32) (x4 : Int32) (s0 : Int32), p_ev scr 110 101 [.ref 24, .ref a, .int x2, .int x3, .int x4] [.int s0, .ref a] w = p_ev scr 110 103 [.ref 24, .ref a, .int x2, .int x3, .int x4] [.int x4, .int s0, .ref a] w) ∧
  (∀ (scr : pX) (w : pW) (x2 : Int32) (x3 : Int32) (x4 : Int32) (s0 : Int32) (s1 : Int32), p_ev scr 110 103 [.ref 24, .ref a, .int x2, .int x3, .int x4] [.int s0, .int s1, .ref a] w = p_ev scr 110 104 [.ref 24, .ref a, .int x2, .int x3, .int x4] [.int (s1 + s0), .ref a] w) ∧
  (∀ (scr : pX) (w : pW) (x2 : Int32) (x3 : Int32) (x4 : Int32) (s0 : Int32), p_ev scr 110 104 [.ref 24, .ref a, .int x2, .int x3, .int x4] [.int s0, .ref a] w = p_ev scr 110 105 [.ref 24, .ref a, .int x2, .int x3, .int x4] [.ref 24, .int s0, .ref a] w) ∧
  (∀ (scr : pX) (w : pW) (x2 : Int32) (x3 : Int32) (x4 : Int32) (s1 : Int32), p_ev scr 110 105 [.ref 24, .ref a, .int x2, .int x3, .int x4] [.ref 24, .int s1, .ref a] w = p_ev scr 110 108 [.ref 24, .ref a, .int x2, .int x3, .int x4] [.ref 27, .int s1, .ref a] w) ∧
  (∀ (scr : pX) (w : pW) (x2 : Int32) (x3 : Int32) (x4 : Int32) (s1 : Int32), p_ev scr 110 108 [.ref 24, .ref a, .int x2, .int x3, .int x4] [.ref 27, .int s1, .ref a] w = p_ev scr 110 110 [.ref 24, .ref a, .int x2, .int x3, .int x4] [.int x4, .ref 27, .int s1, .ref a] w) ∧
  (∀ (scr : pX) (w : pW) (x2 : Int32) (x3 : Int32) (x4 : Int32) (s0 : Int32) (s2 : Int32), p_out s0 16 = false → p_ev scr 110 110 [.ref 24, .ref a, .int x2, .int x3, .int x4] [.int s0, .ref 27, .int s2, .ref a] w = p_ev scr 110 111 [.ref 24, .ref a, .int x2, .int x3, .int x4] [.long (w.2.1 27 s0.toNatClampNeg), .int s2, .ref a] w) ∧
  (∀ (scr : pX) (w : pW) (x2 : Int32) (x3 : Int32) (x4 : Int32) (t0 : Int64) (s1 : Int32), p_out s1 512 = false → p_ev scr 110 111 [.ref 24, .ref a, .int x2, .int x3, .int x4] [.long t0, .int s1, .ref a] w = p_ev scr 110 112 [.ref 24, .ref a, .int x2, .int x3, .int x4] [] (w.1, p_u w.2.1 a s1.toNatClampNeg t0, w.2.2)) ∧
  (∀ (scr : pX) (w : pW) (x2 : Int32) (x3 : Int32) (x4 : Int32), p_ev scr 110 112 [.ref 24, .ref a, .int x2, .int x3, .int x4] [] w = p_ev scr 110 113 [.ref 24, .ref a, .int x2, .int x3, .int x4] [.ref a] w) ∧
  (∀ (scr : pX) (w : pW) (x2 : Int32) (x3 : Int32) (x4 : Int32), p_ev scr 110 113 [.ref 24, .ref a, .int x2, .int x3, .int x4] [.ref a] w = p_ev scr 110 115 [.ref 24, .ref a, .int x2, .int x3, .int x4] [.int (nI 32), .ref a] w) ∧
  (∀ (scr : pX) (w : pW) (x2 : Int32) (x3 : Int32) (x4 : Int32) (s0 : Int32), p_ev scr 110 115 [.ref 24, .ref a, .int x2, .int x3, .int x4] [.int s0, .ref a] w = p_ev scr 110 116 [.ref 24, .ref a, .int x2, .int x3, .int x4] [.int (nI 2), .int s0, .ref a] w) ∧
  (∀ (scr : pX) (w : pW) (x2 : Int32) (x3 : Int32) (x4 : Int32) (s0 : Int32) (s1 : Int32), p_ev scr 110 116 [.ref 24, .ref a, .int x2, .int x3, .int x4] [.int s0, .int s1, .ref a] w = p_ev scr 110 117 [.ref 24, .ref a, .int x2, .int x3, .int x4] [.int x2, .int s0, .int s1, .ref a] w) ∧
  (∀ (scr : pX) (w : pW) (x2 : Int32) (x3 : Int32) (x4 : Int32) (s0 : Int32) (s1 : Int32) (s2 : Int32), p_ev scr 110 117 [.ref 24, .ref a, .int x2, .int x3, .int x4] [.int s0, .int s1, .int s2, .ref a] w = p_ev scr 110 118 [.ref 24, .ref a, .int x2, .int x3, .int x4] [.int (s1 * s0), .int s2, .ref a] w) ∧
  (∀ (scr : pX) (w : pW) (x2 : Int32) (x3 : Int32) (x4 : Int32) (s0 : Int32) (s1 : Int32), p_ev scr 110 118 [.ref 24, .ref a, .int x2, .int x3, .int x4] [.int s0, .int s1, .ref a] w = p_ev scr 110 119 [.ref 24, .ref a, .int x2, .int x3, .int x4] [.int (nI 1), .int s0, .int s1, .ref a] w) ∧
  (∀ (scr : pX) (w : pW) (x2 : Int32) (x3 : Int32) (x4 : Int32) (s0 : Int32) (s1 : Int32) (s2 : Int32), p_ev scr 110 119 [.ref 24, .ref a, .int x2, .int x3, .int x4] [.int s0, .int s1, .int s2, .ref a] w = p_ev scr 110 120 [.ref 24, .ref a, .int x2, .int x3, .int x4] [.int (s1 + s0), .int s2, .ref a] w) ∧
  (∀ (scr : pX) (w : pW) (x2 : Int32) (x3 : Int32) (x4 : Int32) (s0 : Int32) (s1 : Int32), p_ev scr 110 120 [.ref 24, .ref a, .int x2, .int x3, .int x4] [.int s0, .int s1, .ref a] w = p_ev scr 110 121 [.ref 24, .ref a, .int x2, .int x3, .int x4] [.int (s1 * s0), .ref a] w) ∧
  (∀ (scr : pX) (w : pW) (x2 : Int32) (x3 : Int32) (x4 : Int32) (s0 : Int32), p_ev scr 110 121 [.ref 24, .ref a, .int x2, .int x3, .int x4] [.int s0, .ref a] w = p_ev scr 110 123 [.ref 24, .ref a, .int x2, .int x3, .int x4] [.int x4, .int s0, .ref a] w) ∧
  (∀ (scr : pX) (w : pW) (x2 : Int32) (x3 : Int32) (x4 : Int32) (s0 : Int32) (s1 : Int32), p_ev scr 110 123 [.ref 24, .ref a, .int x2, .int x3, .int x4] [.int s0, .int s1, .ref a] w = p_ev scr 110 124 [.ref 24, .ref a, .int x2, .int x3, .int x4] [.int (s1 + s0), .ref a] w) ∧
  (∀ (scr : pX) (w : pW) (x2 : Int32) (x3 : Int32) (x4 : Int32) (s0 : Int32), p_ev scr 110 124 [.ref 24, .ref a, .int x2, .int x3, .int x4] [.int s0, .ref a] w = p_ev scr 110 125 [.ref 24, .ref a, .int x2, .int x3, .int x4] [.ref 24, .int s0, .ref a] w) ∧
  (∀ (scr : pX) (w : pW) (x2 : Int32) (x3 : Int32) (x4 : Int32) (s1 : Int32), p_ev scr 110 125 [.ref 24, .ref a, .int x2, .int x3, .int x4] [.ref 24, .int s1, .ref a] w = p_ev scr 110 128 [.ref 24, .ref a, .int x2, .int x3, .int x4] [.ref 28, .int s1, .ref a] w) ∧
  (∀ (scr : pX) (w : pW) (x2 : Int32) (x3 : Int32) (x4 : Int32) (s1 : Int32), p_ev scr 110 128 [.ref 24, .ref a, .int x2, .int x3, .int x4] [.ref 28, .int s1, .ref a] w = p_ev scr 110 130 [.ref 24, .ref a, .int x2, .int x3, .int x4] [.int x4, .ref 28, .int s1, .ref a] w) ∧
  (∀ (scr : pX) (w : pW) (x2 : Int32) (x3 : Int32) (x4 : Int32) (s0 : Int32) (s2 : Int32), p_out s0 16 = false → p_ev scr 110 130 [.ref 24, .ref a, .int x2, .int x3, .int x4] [.int s0, .ref 28, .int s2, .ref a] w = p_ev scr 110 131 [.ref 24, .ref a, .int x2, .int x3, .int x4] [.long (w.2.1 28 s0.toNatClampNeg), .int s2, .ref a] w) ∧
  (∀ (scr : pX) (w : pW) (x2 : Int32) (x3 : Int32) (x4 : Int32) (t0 : Int64) (s1 : Int32), p_out s1 512 = false → p_ev scr 110 131 [.ref 24, .ref a, .int x2, .int x3, .int x4] [.long t0, .int s1, .ref a] w = p_ev scr 110 132 [.ref 24, .ref a, .int x2, .int x3, .int x4] [] (w.1, p_u w.2.1 a s1.toNatClampNeg t0, w.2.2)) ∧
  (∀ (scr : pX) (w : pW) (x2 : Int32) (x3 : Int32) (x4 : Int32), p_ev scr 110 132 [.ref 24, .ref a, .int x2, .int x3, .int x4] [] w = p_ev scr 110 135 [.ref 24, .ref a, .int x2, .int x3, .int (x4 + (nI 1))] [] w) ∧
  (∀ (scr : pX) (w : pW) (x2 : Int32) (x3 : Int32) (x4 : Int32), p_ev scr 110 135 [.ref 24, .ref a, .int x2, .int x3, .int x4] [] w = p_ev scr 110 90 [.ref 24, .ref a, .int x2, .int x3, .int x4] [] w) ∧
  (∀ (scr : pX) (w : pW) (x2 : Int32) (x3 : Int32) (x4 : Int32), p_ev scr 110 138 [.ref 24, .ref a, .int x2, .int x3, .int x4] [] w = some (.inl none, w, 0)) :=
  ⟨fun _ _ _ => p_r (by decide +kernel : p_at 110 0 = some (.aload_n 0)) rfl,
  fun _ _ _ => p_r (by decide +kernel : p_at 110 1 = some (.iload_n 2)) rfl,
  fun _ _ _ _ => p_rcv (nl := 4) (by decide +kernel : p_at 110 2 = some (.invokevirtual 113)) (by decide +kernel : p_inv (p_own 110) 113 = some (1, 101, 2)) (by decide +kernel) (rfl : p_ob 24 = some (.inr (5, [some 25, some 26, none, none, none, some 27, some 28, some 29, some 30, some 31, some 32, some 33, some 34, some 35, some 36, some 37, some 38, some 39, none, none, some 40]))) rfl rfl (Nat.le_of_ble_eq_true rfl) (Nat.le_of_ble_eq_true rfl) (Nat.le_of_ble_eq_true rfl) rfl,
  fun _ _ _ _ => p_r (by decide +kernel : p_at 110 5 = some (.iconst 2)) rfl,
  fun _ _ _ _ _ hp => p_ridiv (by decide +kernel : p_at 110 6 = some (.idiv)) hp,
  fun _ _ _ _ => p_r (by decide +kernel : p_at 110 7 = some (.istore_n 3)) rfl,
  fun _ _ _ _ => p_r (by decide +kernel : p_at 110 8 = some (.iconst 0)) rfl,
  fun _ _ _ _ _ => p_r (by decide +kernel : p_at 110 9 = some (.istore 4)) rfl,
  fun _ _ _ _ _ _ => p_r (by decide +kernel : p_at 110 13 = some (.iload_n 3)) rfl,
  fun _ _ _ _ _ _ _ => p_rb2 (c := fun x y => decide (y ≤ x)) (off := 47) (by decide +kernel : p_at 110 14 = some (.if_icmp .ge 47)) (by decide +kernel) rfl rfl rfl,
  fun _ _ _ _ _ => p_r (by decide +kernel : p_at 110 17 = some (.aload_n 0)) rfl,
  fun _ _ _ _ _ => p_rgf (f := some 27) (by decide +kernel : p_at 110 18 = some (.getfield 21)) (by decide +kernel : p_fld (p_own 110) 21 = some (5, 5)) (rfl : p_ob 24 = some (.inr (5, [some 25, some 26, none, none, none, some 27, some 28, some 29, some 30, some 31, some 32, some 33, some 34, some 35, some 36, some 37, some 38, some 39, none, none, some 40]))) rfl,
  fun _ _ _ _ _ => p_r (by decide +kernel : p_at 110 21 = some (.iload 4)) rfl,
  fun _ _ _ _ _ _ => p_r (by decide +kernel : p_at 110 23 = some (.aload_n 1)) rfl,
  fun _ _ _ _ _ _ => p_r (by decide +kernel : p_at 110 24 = some (.bipush 32)) rfl,
  fun _ _ _ _ _ _ _ => p_r (by decide +kernel : p_at 110 26 = some (.iload_n 2)) rfl,
  fun _ _ _ _ _ _ _ _ => p_r (by decide +kernel : p_at 110 27 = some (.imul)) rfl,
  fun _ _ _ _ _ _ _ => p_r (by decide +kernel : p_at 110 28 = some (.iconst 2)) rfl,
  fun _ _ _ _ _ _ _ _ => p_r (by decide +kernel : p_at 110 29 = some (.iload 4)) rfl,
  fun _ _ _ _ _ _ _ _ _ => p_r (by decide +kernel : p_at 110 31 = some (.imul)) rfl,
  fun _ _ _ _ _ _ _ _ => p_r (by decide +kernel : p_at 110 32 = some (.iadd)) rfl,
  fun _ _ _ _ _ _ _ hp => p_rlald (by decide +kernel : p_at 110 33 = some (.laload)) ha hp,
  fun _ _ _ _ _ _ _ hp => p_rlast (by decide +kernel : p_at 110 34 = some (.lastore)) (rfl : p_ob 27 = some (.inl (2, 16))) hp,
  fun _ _ _ _ _ => p_r (by decide +kernel : p_at 110 35 = some (.aload_n 0)) rfl,
  fun _ _ _ _ _ => p_rgf (f := some 28) (by decide +kernel : p_at 110 36 = some (.getfield 24)) (by decide +kernel : p_fld (p_own 110) 24 = some (5, 6)) (rfl : p_ob 24 = some (.inr (5, [some 25, some 26, none, none, none, some 27, some 28, some 29, some 30, some 31, some 32, some 33, some 34, some 35, some 36, some 37, some 38, some 39, none, none, some 40]))) rfl,
  fun _ _ _ _ _ => p_r (by decide +kernel : p_at 110 39 = some (.iload 4)) rfl,
  fun _ _ _ _ _ _ => p_r (by decide +kernel : p_at 110 41 = some (.aload_n 1)) rfl,
  fun _ _ _ _ _ _ => p_r (by decide +kernel : p_at 110 42 = some (.bipush 32)) rfl,
  fun _ _ _ _ _ _ _ => p_r (by decide +kernel : p_at 110 44 = some (.iload_n 2)) rfl,
  fun _ _ _ _ _ _ _ _ => p_r (by decide +kernel : p_at 110 45 = some (.imul)) rfl,
  fun _ _ _ _ _ _ _ => p_r (by decide +kernel : p_at 110 46 = some (.iconst 2)) rfl,
  fun _ _ _ _ _ _ _ _ => p_r (by decide +kernel : p_at 110 47 = some (.iload 4)) rfl,
  fun _ _ _ _ _ _ _ _ _ => p_r (by decide +kernel : p_at 110 49 = some (.imul)) rfl,
  fun _ _ _ _ _ _ _ _ => p_r (by decide +kernel : p_at 110 50 = some (.iadd)) rfl,
  fun _ _ _ _ _ _ _ => p_r (by decide +kernel : p_at 110 51 = some (.iconst 1)) rfl,
  fun _ _ _ _ _ _ _ _ => p_r (by decide +kernel : p_at 110 52 = some (.iadd)) rfl,
  fun _ _ _ _ _ _ _ hp => p_rlald (by decide +kernel : p_at 110 53 = some (.laload)) ha hp,
  fun _ _ _ _ _ _ _ hp => p_rlast (by decide +kernel : p_at 110 54 = some (.lastore)) (rfl : p_ob 28 = some (.inl (2, 16))) hp,
  fun _ _ _ _ _ => p_r (by decide +kernel : p_at 110 55 = some (.iinc 4 1)) rfl,
  fun _ _ _ _ _ => p_rgo (by decide +kernel : p_at 110 58 = some (.goto (-47))) (by decide +kernel),
  fun _ _ _ _ _ => p_r (by decide +kernel : p_at 110 61 = some (.iconst 0)) rfl,
  fun _ _ _ _ _ _ => p_r (by decide +kernel : p_at 110 62 = some (.istore 4)) rfl,
  fun _ _ _ _ _ _ => p_r (by decide +kernel : p_at 110 66 = some (.aload_n 0)) rfl,
  fun _ _ _ _ _ _ => p_rcv (nl := 1) (by decide +kernel : p_at 110 67 = some (.invokevirtual 116)) (by decide +kernel : p_inv (p_own 110) 116 = some (1, 108, 1)) (by decide +kernel) (rfl : p_ob 24 = some (.inr (5, [some 25, some 26, none, none, none, some 27, some 28, some 29, some 30, some 31, some 32, some 33, some 34, some 35, some 36, some 37, some 38, some 39, none, none, some 40]))) rfl rfl (Nat.le_of_ble_eq_true rfl) (Nat.le_of_ble_eq_true rfl) (Nat.le_of_ble_eq_true rfl) rfl,
  fun _ _ _ _ _ _ _ => p_rb2 (c := fun x y => decide (y ≤ x)) (off := 17) (by decide +kernel : p_at 110 70 = some (.if_icmp .ge 17)) (by decide +kernel) rfl rfl rfl,
  fun _ _ _ _ _ => p_r (by decide +kernel : p_at 110 73 = some (.aload_n 0)) rfl,
  fun _ _ _ _ _ => p_r (by decide +kernel : p_at 110 74 = some (.iload 4)) rfl,
  fun _ _ _ _ _ _ => p_r (by decide +kernel : p_at 110 76 = some (.iload_n 3)) rfl,
  fun _ _ _ _ _ _ _ => p_r (by decide +kernel : p_at 110 77 = some (.iconst 1)) rfl,
  fun _ _ _ _ _ _ _ _ => p_rcv (nl := 5) (by decide +kernel : p_at 110 78 = some (.invokevirtual 120)) (by decide +kernel : p_inv (p_own 110) 120 = some (1, 109, 4)) (by decide +kernel) (rfl : p_ob 24 = some (.inr (5, [some 25, some 26, none, none, none, some 27, some 28, some 29, some 30, some 31, some 32, some 33, some 34, some 35, some 36, some 37, some 38, some 39, none, none, some 40]))) rfl rfl (Nat.le_of_ble_eq_true rfl) (Nat.le_of_ble_eq_true rfl) (Nat.le_of_ble_eq_true rfl) rfl,
  fun _ _ _ _ _ => p_r (by decide +kernel : p_at 110 81 = some (.iinc 4 1)) rfl,
  fun _ _ _ _ _ => p_rgo (by decide +kernel : p_at 110 84 = some (.goto (-20))) (by decide +kernel),
  fun _ _ _ _ _ => p_r (by decide +kernel : p_at 110 87 = some (.iconst 0)) rfl,
  fun _ _ _ _ _ _ => p_r (by decide +kernel : p_at 110 88 = some (.istore 4)) rfl,
  fun _ _ _ _ _ _ => p_r (by decide +kernel : p_at 110 92 = some (.iload_n 3)) rfl,
  fun _ _ _ _ _ _ _ => p_rb2 (c := fun x y => decide (y ≤ x)) (off := 45) (by decide +kernel : p_at 110 93 = some (.if_icmp .ge 45)) (by decide +kernel) rfl rfl rfl,
  fun _ _ _ _ _ => p_r (by decide +kernel : p_at 110 96 = some (.aload_n 1)) rfl,
  fun _ _ _ _ _ => p_r (by decide +kernel : p_at 110 97 = some (.bipush 64)) rfl,
  fun _ _ _ _ _ _ => p_r (by decide +kernel : p_at 110 99 = some (.iload_n 2)) rfl,
  fun _ _ _ _ _ _ _ => p_r (by decide +kernel : p_at 110 100 = some (.imul)) rfl,
  fun _ _ _ _ _ _ => p_r (by decide +kernel : p_at 110 101 = some (.iload 4)) rfl,
  fun _ _ _ _ _ _ _ => p_r (by decide +kernel : p_at 110 103 = some (.iadd)) rfl,
  fun _ _ _ _ _ _ => p_r (by decide +kernel : p_at 110 104 = some (.aload_n 0)) rfl,
  fun _ _ _ _ _ _ => p_rgf (f := some 27) (by decide +kernel : p_at 110 105 = some (.getfield 21)) (by decide +kernel : p_fld (p_own 110) 21 = some (5, 5)) (rfl : p_ob 24 = some (.inr (5, [some 25, some 26, none, none, none, some 27, some 28, some 29, some 30, some 31, some 32, some 33, some 34, some 35, some 36, some 37, some 38, some 39, none, none, some 40]))) rfl,
  fun _ _ _ _ _ _ => p_r (by decide +kernel : p_at 110 108 = some (.iload 4)) rfl,
  fun _ _ _ _ _ _ _ hp => p_rlald (by decide +kernel : p_at 110 110 = some (.laload)) (rfl : p_ob 27 = some (.inl (2, 16))) hp,
  fun _ _ _ _ _ _ _ hp => p_rlast (by decide +kernel : p_at 110 111 = some (.lastore)) ha hp,
  fun _ _ _ _ _ => p_r (by decide +kernel : p_at 110 112 = some (.aload_n 1)) rfl,
  fun _ _ _ _ _ => p_r (by decide +kernel : p_at 110 113 = some (.bipush 32)) rfl,
  fun _ _ _ _ _ _ => p_r (by decide +kernel : p_at 110 115 = some (.iconst 2)) rfl,
  fun _ _ _ _ _ _ _ => p_r (by decide +kernel : p_at 110 116 = some (.iload_n 2)) rfl,
  fun _ _ _ _ _ _ _ _ => p_r (by decide +kernel : p_at 110 117 = some (.imul)) rfl,
  fun _ _ _ _ _ _ _ => p_r (by decide +kernel : p_at 110 118 = some (.iconst 1)) rfl,
  fun _ _ _ _ _ _ _ _ => p_r (by decide +kernel : p_at 110 119 = some (.iadd)) rfl,
  fun _ _ _ _ _ _ _ => p_r (by decide +kernel : p_at 110 120 = some (.imul)) rfl,
  fun _ _ _ _ _ _ => p_r (by decide +kernel : p_at 110 121 = some (.iload 4)) rfl,
  fun _ _ _ _ _ _ _ => p_r (by decide +kernel : p_at 110 123 = some (.iadd)) rfl,
  fun _ _ _ _ _ _ => p_r (by decide +kernel : p_at 110 124 = some (.aload_n 0)) rfl,
  fun _ _ _ _ _ _ => p_rgf (f := some 28) (by decide +kernel : p_at 110 125 = some (.getfield 24)) (by decide +kernel : p_fld (p_own 110) 24 = some (5, 6)) (rfl : p_ob 24 = some (.inr (5, [some 25, some 26, none, none, none, some 27, some 28, some 29, some 30, some 31, some 32, some 33, some 34, some 35, some 36, some 37, some 38, some 39, none, none, some 40]))) rfl,
  fun _ _ _ _ _ _ => p_r (by decide +kernel : p_at 110 128 = some (.iload 4)) rfl,
  fun _ _ _ _ _ _ _ hp => p_rlald (by decide +kernel : p_at 110 130 = some (.laload)) (rfl : p_ob 28 = some (.inl (2, 16))) hp,
  fun _ _ _ _ _ _ _ hp => p_rlast (by decide +kernel : p_at 110 131 = some (.lastore)) ha hp,
  fun _ _ _ _ _ => p_r (by decide +kernel : p_at 110 132 = some (.iinc 4 1)) rfl,
  fun _ _ _ _ _ => p_rgo (by decide +kernel : p_at 110 135 = some (.goto (-45))) (by decide +kernel),
  fun _ _ _ _ _ => p_rvret (by decide +kernel : p_at 110 138 = some (.return_)) (by decide +kernel)⟩
theorem H110_11 (a : Nat) (ha : p_lg a) :
  (∀ (scr : pX) (w : pW) (x2 : Int32) (x3 : Int32) (x4 : Int32), p_ev scr 110 11 [.ref 24, .ref a, .int x2, .int x3, .int x4] [] w = p_ev scr 110 13 [.ref 24, .ref a, .int x2, .int x3, .int x4] [.int x4] w) :=
  fun _ _ _ _ _ => p_r (by decide +kernel : p_at 110 11 = some (.iload 4)) rfl
theorem H110_64 (a : Nat) (ha : p_lg a) :
  (∀ (scr : pX) (w : pW) (x2 : Int32) (x3 : Int32) (x4 : Int32), p_ev scr 110 64 [.ref 24, .ref a, .int x2, .int x3, .int x4] [] w = p_ev scr 110 66 [.ref 24, .ref a, .int x2, .int x3, .int x4] [.int x4] w) :=
  fun _ _ _ _ _ => p_r (by decide +kernel : p_at 110 64 = some (.iload 4)) rfl
theorem H110_90 (a : Nat) (ha : p_lg a) :
  (∀ (scr : pX) (w : pW) (x2 : Int32) (x3 : Int32) (x4 : Int32), p_ev scr 110 90 [.ref 24, .ref a, .int x2, .int x3, .int x4] [] w = p_ev scr 110 92 [.ref 24, .ref a, .int x2, .int x3, .int x4] [.int x4] w) :=
  fun _ _ _ _ _ => p_r (by decide +kernel : p_at 110 90 = some (.iload 4)) rfl
-- 111: joinRow
theorem M111 (a : Nat) (ha : p_lg a) :
  (∀ (scr : pX) (w : pW) (x2 : Int32), p_ev scr 111 0 [.ref 24, .ref a, .int x2, p_U, p_U] [] w = p_ev scr 111 1 [.ref 24, .ref a, .int x2, p_U, p_U] [.ref 24] w) ∧
  (∀ (scr : pX) (w : pW) (x2 : Int32), p_ev scr 111 1 [.ref 24, .ref a, .int x2, p_U, p_U] [.ref 24] w = p_ev scr 111 2 [.ref 24, .ref a, .int x2, p_U, p_U] [.int x2, .ref 24] w) ∧
  (∀ (scr : pX) (w : pW) (x2 : Int32) (s0 : Int32), p_ev scr 111 2 [.ref 24, .ref a, .int x2, p_U, p_U] [.int s0, .ref 24] w = p_bnd scr 111 2 5 [.ref 24, .ref a, .int x2, p_U, p_U] [] (p_ev none 101 0 [.ref 24, .int s0, p_U, p_U] [] w)) ∧
  (∀ (scr : pX) (w : pW) (x2 : Int32) (s0 : Int32), p_ev scr 111 5 [.ref 24, .ref a, .int x2, p_U, p_U] [.int s0] w = p_ev scr 111 6 [.ref 24, .ref a, .int x2, p_U, p_U] [.int (nI 2), .int s0] w) ∧
  (∀ (scr : pX) (w : pW) (x2 : Int32) (s0 : Int32) (s1 : Int32), ¬ s0 = 0 → p_ev scr 111 6 [.ref 24, .ref a, .int x2, p_U, p_U] [.int s0, .int s1] w = p_ev scr 111 7 [.ref 24, .ref a, .int x2, p_U, p_U] [.int (s1 / s0)] w) ∧
  (∀ (scr : pX) (w : pW) (x2 : Int32) (s0 : Int32), p_ev scr 111 7 [.ref 24, .ref a, .int x2, p_U, p_U] [.int s0] w = p_ev scr 111 8 [.ref 24, .ref a, .int x2, .int s0, p_U] [] w) ∧
  (∀ (scr : pX) (w : pW) (x2 : Int32) (x3 : Int32), p_ev scr 111 8 [.ref 24, .ref a, .int x2, .int x3, p_U] [] w = p_ev scr 111 9 [.ref 24, .ref a, .int x2, .int x3, p_U] [.int (nI 0)] w) ∧
  (∀ (scr : pX) (w : pW) (x2 : Int32) (x3 : Int32) (s0 : Int32), p_ev scr 111 9 [.ref 24, .ref a, .int x2, .int x3, p_U] [.int s0] w = p_ev scr 111 11 [.ref 24, .ref a, .int x2, .int x3, .int s0] [] w) ∧
  (∀ (scr : pX) (w : pW) (x2 : Int32) (x3 : Int32) (x4 : Int32) (s0 : Int32), p_ev scr 111 13 [.ref 24, .ref a, .int x2, .int x3, .int x4] [.int s0] w = p_ev scr 111 14 [.ref 24, .ref a, .int x2, .int x3, .int x4] [.int x3, .int s0] w) ∧
  (∀ (scr : pX) (w : pW) (x2 : Int32) (x3 : Int32) (x4 : Int32) (s0 : Int32) (s1 : Int32), p_ev scr 111 14 [.ref 24, .ref a, .int x2, .int x3, .int x4] [.int s0, .int s1] w = if s0 ≤ s1 then p_ev scr 111 59 [.ref 24, .ref a, .int x2, .int x3, .int x4] [] w else p_ev scr 111 17 [.ref 24, .ref a, .int x2, .int x3, .int x4] [] w) ∧
  (∀ (scr : pX) (w : pW) (x2 : Int32) (x3 : Int32) (x4 : Int32), p_ev scr 111 17 [.ref 24, .ref a, .int x2, .int x3, .int x4] [] w = p_ev scr 111 18 [.ref 24, .ref a, .int x2, .int x3, .int x4] [.ref 24] w) ∧
  (∀ (scr : pX) (w : pW) (x2 : Int32) (x3 : Int32) (x4 : Int32), p_ev scr 111 18 [.ref 24, .ref a, .int x2, .int x3, .int x4] [.ref 24] w = p_ev scr 111 21 [.ref 24, .ref a, .int x2, .int x3, .int x4] [.ref 27] w) ∧
  (∀ (scr : pX) (w : pW) (x2 : Int32) (x3 : Int32) (x4 : Int32), p_ev scr 111 21 [.ref 24, .ref a, .int x2, .int x3, .int x4] [.ref 27] w = p_ev scr 111 23 [.ref 24, .ref a, .int x2, .int x3, .int x4] [.int x4, .ref 27] w) ∧
  (∀ (scr : pX) (w : pW) (x2 : Int32) (x3 : Int32) (x4 : Int32) (s0 : Int32), p_ev scr 111 23 [.ref 24, .ref a, .int x2, .int x3, .int x4] [.int s0, .ref 27] w = p_ev scr 111 24 [.ref 24, .ref a, .int x2, .int x3, .int x4] [.ref a, .int s0, .ref 27] w) ∧
  (∀ (scr : pX) (w : pW) (x2 : Int32) (x3 : Int32) (x4 : Int32) (s1 : Int32), p_ev scr 111 24 [.ref 24, .ref a, .int x2, .int x3, .int x4] [.ref a, .int s1, .ref 27] w = p_ev scr 111 26 [.ref 24, .ref a, .int x2, .int x3, .int x4] [.int (nI 64), .ref a, .int s1, .ref 27] w) ∧
  (∀ (scr : pX) (w : pW) (x2 : Int32) (x3 : Int32) (x4 : Int32) (s0 : Int32) (s2 : Int32), p_ev scr 111 26 [.ref 24, .ref a, .int x2, .int x3, .int x4] [.int s0, .ref a, .int s2, .ref 27] w = p_ev scr 111 27 [.ref 24, .ref a, .int x2, .int x3, .int x4] [.int x2, .int s0, .ref a, .int s2, .ref 27] w) ∧
  (∀ (scr : pX) (w : pW) (x2 : Int32) (x3 : Int32) (x4 : Int32) (s0 : Int32) (s1 : Int32) (s3 : Int32), p_ev scr 111 27 [.ref 24, .ref a, .int x2, .int x3, .int x4] [.int s0, .int s1, .ref a, .int s3, .ref 27] w = p_ev scr 111 28 [.ref 24, .ref a, .int x2, .int x3, .int x4] [.int (s1 * s0), .ref a, .int s3, .ref 27] w) ∧
  (∀ (scr : pX) (w : pW) (x2 : Int32) (x3 : Int32) (x4 : Int32) (s0 : Int32) (s2 : Int32), p_ev scr 111 28 [.ref 24, .ref a, .int x2, .int x3, .int x4] [.int s0, .ref a, .int s2, .ref 27] w = p_ev scr 111 30 [.ref 24, .ref a, .int x2, .int x3, .int x4] [.int x4, .int s0, .ref a, .int s2, .ref 27] w) ∧
  (∀ (scr : pX) (w : pW) (x2 : Int32) (x3 : Int32) (x4 : Int32) (s0 : Int32) (s1 : Int32) (s3 : Int32), p_ev scr 111 30 [.ref 24, .ref a, .int x2, .int x3, .int x4] [.int s0, .int s1, .ref a, .int s3, .ref 27] w = p_ev scr 111 31 [.ref 24, .ref a, .int x2, .int x3, .int x4] [.int (s1 + s0), .ref a, .int s3, .ref 27] w) ∧
  (∀ (scr : pX) (w : pW) (x2 : Int32) (x3 : Int32) (x4 : Int32) (s0 : Int32) (s2 : Int32), p_out s0 512 = false → p_ev scr 111 31 [.ref 24, .ref a, .int x2, .int x3, .int x4] [.int s0, .ref a, .int s2, .ref 27] w = p_ev scr 111 32 [.ref 24, .ref a, .int x2, .int x3, .int x4] [.long (w.2.1 a s0.toNatClampNeg), .int s2, .ref 27] w) ∧
  (∀ (scr : pX) (w : pW) (x2 : Int32) (x3 : Int32) (x4 : Int32) (t0 : Int64) (s1 : Int32), p_out s1 16 = false → p_ev scr 111 32 [.ref 24, .ref a, .int x2, .int x3, .int x4] [.long t0, .int s1, .ref 27] w = p_ev scr 111 33 [.ref 24, .ref a, .int x2, .int x3, .int x4] [] (w.1, p_u w.2.1 27 s1.toNatClampNeg t0, w.2.2)) ∧
  (∀ (scr : pX) (w : pW) (x2 : Int32) (x3 : Int32) (x4 : Int32), p_ev scr 111 33 [.ref 24, .ref a, .int x2, .int x3, .int x4] [] w = p_ev scr 111 34 [.ref 24, .ref a, .int x2, .int x3, .int x4] [.ref 24] w) ∧
  (∀ (scr : pX) (w : pW) (x2 : Int32) (x3 : Int32) (x4 : Int32), p_ev scr 111 34 [.ref 24, .ref a, .int x2, .int x3, .int x4] [.ref 24] w = p_ev scr 111 37 [.ref 24, .ref a, .int x2, .int x3, .int x4] [.ref 28] w) ∧
  (∀ (scr : pX) (w : pW) (x2 : Int32) (x3 : Int32) (x4 : Int32), p_ev scr 111 37 [.ref 24, .ref a, .int x2, .int x3, .int x4] [.ref 28] w = p_ev scr 111 39 [.ref 24, .ref a, .int x2, .int x3, .int x4] [.int x4, .ref 28] w) ∧
  (∀ (scr : pX) (w : pW) (x2 : Int32) (x3 : Int32) (x4 : Int32) (s0 : Int32), p_ev scr 111 39 [.ref 24, .ref a, .int x2, .int x3, .int x4] [.int s0, .ref 28] w = p_ev scr 111 40 [.ref 24, .ref a, .int x2, .int x3, .int x4] [.ref a, .int s0, .ref 28] w) ∧
  (∀ (scr : pX) (w : pW) (x2 : Int32) (x3 : Int32) (x4 : Int32) (s1 : Int32), p_ev scr 111 40 [.ref 24, .ref a, .int x2, .int x3, .int x4] [.ref a, .int s1, .ref 28] w = p_ev scr 111 42 [.ref 24, .ref a, .int x2, .int x3, .int x4] [.int (nI 32), .ref a, .int s1, .ref 28] w) ∧
  (∀ (scr : pX) (w : pW) (x2 : Int32) (x3 : Int32) (x4 : Int32) (s0 : Int32) (s2 : Int32), p_ev scr 111 42 [.ref 24, .ref a, .int x2, .int x3, .int x4] [.int s0, .ref a, .int s2, .ref 28] w = p_ev scr 111 43 [.ref 24, .ref a, .int x2, .int x3, .int x4] [.int (nI 2), .int s0, .ref a, .int s2, .ref 28] w) ∧
  (∀ (scr : pX) (w : pW) (x2 : Int32) (x3 : Int32) (x4 : Int32) (s0 : Int32) (s1 : Int32) (s3 : Int32), p_ev scr 111 43 [.ref 24, .ref a, .int x2, .int x3, .int x4] [.int s0, .int s1, .ref a, .int s3, .ref 28] w = p_ev scr 111 44 [.ref 24, .ref a, .int x2, .int x3, .int x4] [.int x2, .int s0, .int s1, .ref a, .int s3, .ref 28] w) ∧
  (∀ (scr : pX) (w : pW) (x2 : Int32) (x3 : Int32) (x4 : Int32) (s0 : Int32) (s1 : Int32) (s2 : Int32) (s4 : Int32), p_ev scr 111 44 [.ref 24, .ref a, .int x2, .int x3, .int x4] [.int s0, .int s1, .int s2, .ref a, .int s4, .ref 28] w = p_ev scr 111 45 [.ref 24, .ref a, .int x2, .int x3, .int x4] [.int (s1 * s0), .int s2, .ref a, .int s4, .ref 28] w) ∧
  (∀ (scr : pX) (w : pW) (x2 : Int32) (x3 : Int32) (x4 : Int32) (s0 : Int32) (s1 : Int32) (s3 : Int32), p_ev scr 111 45 [.ref 24, .ref a, .int x2, .int x3, .int x4] [.int s0, .int s1, .ref a, .int s3, .ref 28] w = p_ev scr 111 46 [.ref 24, .ref a, .int x2, .int x3, .int x4] [.int (nI 1), .int s0, .int s1, .ref a, .int s3, .ref 28] w) ∧
  (∀ (scr : pX) (w : pW) (x2 : Int32) (x3 : Int32) (x4 : Int32) (s0 : Int32) (s1 : Int32) (s2 : Int32) (s4 : Int32), p_ev scr 111 46 [.ref 24, .ref a, .int x2, .int x3, .int x4] [.int s0, .int s1, .int s2, .ref a, .int s4, .ref 28] w = p_ev scr 111 47 [.ref 24, .ref a, .int x2, .int x3, .int x4] [.int (s1 + s0), .int s2, .ref a, .int s4, .ref 28] w) ∧
  (∀ (scr : pX) (w : pW) (x2 : Int32) (x3 : Int32) (x4 : Int32) (s0 : Int32) (s1 : Int32) (s3 : Int32), p_ev scr 111 47 [.ref 24, .ref a, .int x2, .int x3, .int x4] [.int s0, .int s1, .ref a, .int s3, .ref 28] w = p_ev scr 111 48 [.ref 24, .ref a, .int x2, .int x3, .int x4] [.int (s1 * s0), .ref a, .int s3, .ref 28] w) ∧
  (∀ (scr : pX) (w : pW) (x2 : Int32) (x3 : Int32) (x4 : Int32) (s0 : Int32) (s2 : Int32), p_ev scr 111 48 [.ref 24, .ref a, .int x2, .int x3, .int x4] [.int s0, .ref a, .int s2, .ref 28] w = p_ev scr 111 50 [.ref 24, .ref a, .int x2, .int x3, .int x4] [.int x4, .int s0, .ref a, .int s2, .ref 28] w) ∧
  (∀ (scr : pX) (w : pW) (x2 : Int32) (x3 : Int32) (x4 : Int32) (s0 : Int32) (s1 : Int32) (s3 : Int32), p_ev scr 111 50 [.ref 24, .ref a, .int x2, .int x3, .int x4] [.int s0, .int s1, .ref a, .int s3, .ref 28] w = p_ev scr 111 51 [.ref 24, .ref a, .int x2, .int x3, .int x4] [.int (s1 + s0), .ref a, .int s3, .ref 28] w) ∧
  (∀ (scr : pX) (w : pW) (x2 : Int32) (x3 : Int32) (x4 : Int32) (s0 : Int32) (s2 : Int32), p_out s0 512 = false → p_ev scr 111 51 [.ref 24, .ref a, .int x2, .int x3, .int x4] [.int s0, .ref a, .int s2, .ref 28] w = p_ev scr 111 52 [.ref 24, .ref a, .int x2, .int x3, .int x4] [.long (w.2.1 a s0.toNatClampNeg), .int s2, .ref 28] w) ∧
  (∀ (scr : pX) (w : pW) (x2 : Int32) (x3 : Int32) (x4 : Int32) (t0 : Int64) (s1 : Int32), p_out s1 16 = false → p_ev scr 111 52 [.ref 24, .ref a, .int x2, .int x3, .int x4] [.long t0, .int s1, .ref 28] w = p_ev scr 111 53 [.ref 24, .ref a, .int x2, .int x3, .int x4] [] (w.1, p_u w.2.1 28 s1.toNatClampNeg t0, w.2.2)) ∧
  (∀ (scr : pX) (w : pW) (x2 : Int32) (x3 : Int32) (x4 : Int32), p_ev scr 111 53 [.ref 24, .ref a, .int x2, .int x3, .int x4] [] w = p_ev scr 111 56 [.ref 24, .ref a, .int x2, .int x3, .int (x4 + (nI 1))] [] w) ∧
  (∀ (scr : pX) (w : pW) (x2 : Int32) (x3 : Int32) (x4 : Int32), p_ev scr 111 56 [.ref 24, .ref a, .int x2, .int x3, .int x4] [] w = p_ev scr 111 11 [.ref 24, .ref a, .int x2, .int x3, .int x4] [] w) ∧
  (∀ (scr : pX) (w : pW) (x2 : Int32) (x3 : Int32) (x4 : Int32), p_ev scr 111 59 [.ref 24, .ref a, .int x2, .int x3, .int x4] [] w = p_ev scr 111 60 [.ref 24, .ref a, .int x2, .int x3, .int x4] [.ref 24] w) ∧
  (∀ (scr : pX) (w : pW) (x2 : Int32) (x3 : Int32) (x4 : Int32), p_ev scr 111 60 [.ref 24, .ref a, .int x2, .int x3, .int x4] [.ref 24] w = p_bnd scr 111 60 63 [.ref 24, .ref a, .int x2, .int x3, .int x4] [] (p_ev none 108 0 [.ref 24] [] w)) ∧
  (∀ (scr : pX) (w : pW) (x2 : Int32) (x3 : Int32) (x4 : Int32) (s0 : Int32), p_ev scr 111 63 [.ref 24, .ref a, .int x2, .int x3, .int x4] [.int s0] w = p_ev scr 111 64 [.ref 24, .ref a, .int x2, .int x3, .int x4] [.int (nI 1), .int s0] w) ∧
  (∀ (scr : pX) (w : pW) (x2 : Int32) (x3 : Int32) (x4 : Int32) (s0 : Int32) (s1 : Int32), p_ev scr 111 64 [.ref 24, .ref a, .int x2, .int x3, .int x4] [.int s0, .int s1] w = p_ev scr 111 65 [.ref 24, .ref a, .int x2, .int x3, .int x4] [.int (s1 - s0)] w) ∧
  (∀ (scr : pX) (w : pW) (x2 : Int32) (x3 : Int32) (x4 : Int32) (s0 : Int32), p_ev scr 111 65 [.ref 24, .ref a, .int x2, .int x3, .int x4] [.int s0] w = p_ev scr 111 67 [.ref 24, .ref a, .int x2, .int x3, .int s0] [] w) ∧
  (∀ (scr : pX) (w : pW) (x2 : Int32) (x3 : Int32) (x4 : Int32) (s0 : Int32), p_ev scr 111 69 [.ref 24, .ref a, .int x2, .int x3, .int x4] [.int s0] w = if s0 < nI 0 then p_ev scr 111 86 [.ref 24, .ref a, .int x2, .int x3, .int x4] [] w else p_ev scr 111 72 [.ref 24, .ref a, .int x2, .int x3, .int x4] [] w) ∧
  (∀ (scr : pX) (w : pW) (x2 : Int32) (x3 : Int32) (x4 : Int32), p_ev scr 111 72 [.ref 24, .ref a, .int x2, .int x3, .int x4] [] w = p_ev scr 111 73 [.ref 24, .ref a, .int x2, .int x3, .int x4] [.ref 24] w) ∧
  (∀ (scr : pX) (w : pW) (x2 : Int32) (x3 : Int32) (x4 : Int32), p_ev scr 111 73 [.ref 24, .ref a, .int x2, .int x3, .int x4] [.ref 24] w = p_ev scr 111 75 [.ref 24, .ref a, .int x2, .int x3, .int x4] [.int x4, .ref 24] w) ∧
  (∀ (scr : pX) (w : pW) (x2 : Int32) (x3 : Int32) (x4 : Int32) (s0 : Int32), p_ev scr 111 75 [.ref 24, .ref a, .int x2, .int x3, .int x4] [.int s0, .ref 24] w = p_ev scr 111 76 [.ref 24, .ref a, .int x2, .int x3, .int x4] [.int x3, .int s0, .ref 24] w) ∧
  (∀ (scr : pX) (w : pW) (x2 : Int32) (x3 : Int32) (x4 : Int32) (s0 : Int32) (s1 : Int32), p_ev scr 111 76 [.ref 24, .ref a, .int x2, .int x3, .int x4] [.int s0, .int s1, .ref 24] w = p_ev scr 111 77 [.ref 24, .ref a, .int x2, .int x3, .int x4] [.int (-1 : Int32), .int s0, .int s1, .ref 24] w) ∧
  (∀ (scr : pX) (w : pW) (x2 : Int32) (x3 : Int32) (x4 : Int32) (s0 : Int32) (s1 : Int32) (s2 : Int32), p_ev scr 111 77 [.ref 24, .ref a, .int x2, .int x3, .int x4] [.int s0, .int s1, .int s2, .ref 24] w = p_bnd scr 111 77 80 [.ref 24, .ref a, .int x2, .int x3, .int x4] [] (p_ev none 109 0 [.ref 24, .int s2, .int s1, .int s0, p_U] [] w)) ∧
  (∀ (scr : pX) (w : pW) (x2 : Int32) (x3 : Int32) (x4 : Int32), p_ev scr 111 80 [.ref 24, .ref a, .int x2, .int x3, .int x4] [] w = p_ev scr 111 83 [.ref 24, .ref a, .int x2, .int x3, .int (x4 + (-1 : Int32))] [] w) ∧
  (∀ (scr : pX) (w : pW) (x2 : Int32) (x3 : Int32) (x4 : Int32), p_ev scr 111 83 [.ref 24, .ref a, .int x2, .int x3, .int x4] [] w = p_ev scr 111 67 [.ref 24, .ref a, .int x2, .int x3, .int x4] [] w) ∧
  (∀ (scr : pX) (w : pW) (x2 : Int32) (x3 : Int32) (x4 : Int32), p_ev scr 111 86 [.ref 24, .ref a, .int x2, .int x3, .int x4] [] w = p_ev scr 111 87 [.ref 24, .ref a, .int x2, .int x3, .int x4] [.int (nI 0)] w) ∧
  (∀ (scr : pX) (w : pW) (x2 : Int32) (x3 : Int32) (x4 : Int32) (s0 : Int32), p_ev scr 111 87 [.ref 24, .ref a, .int x2, .int x3, .int x4] [.int s0] w = p_ev scr 111 89 [.ref 24, .ref a, .int x2, .int x3, .int s0] [] w) ∧
  (∀ (scr : pX) (w : pW) (x2 : Int32) (x3 : Int32) (x4 : Int32) (s0 : Int32), p_ev scr 111 91 [.ref 24, .ref a, .int x2, .int x3, .int x4] [.int s0] w = p_ev scr 111 92 [.ref 24, .ref a, .int x2, .int x3, .int x4] [.int x3, .int s0] w) ∧
  (∀ (scr : pX) (w : pW) (x2 : Int32) (x3 : Int32) (x4 : Int32) (s0 : Int32) (s1 : Int32), p_ev scr 111 92 [.ref 24, .ref a, .int x2, .int x3, .int x4] [.int s0, .int s1] w = if s0 ≤ s1 then p_ev scr 111 139 [.ref 24, .ref a, .int x2, .int x3, .int x4] [] w else p_ev scr 111 95 [.ref 24, .ref a, .int x2, .int x3, .int x4] [] w) ∧
  (∀ (scr : pX) (w : pW) (x2 : Int32) (x3 : Int32) (x4 : Int32), p_ev scr 111 95 [.ref 24, .ref a, .int x2, .int x3, .int x4] [] w = p_ev scr 111 96 [.ref 24, .ref a, .int x2, .int x3, .int x4] [.ref a] w) ∧
  (∀ (scr : pX) (w : pW) (x2 : Int32) (x3 : Int32) (x4 : Int32), p_ev scr 111 96 [.ref 24, .ref a, .int x2, .int x3, .int x4] [.ref a] w = p_ev scr 111 98 [.ref 24, .ref a, .int x2, .int x3, .int x4] [.int (nI 32), .ref a] w) ∧
  (∀ (scr : pX) (w : pW) (x2 : Int32) (x3 : Int32) (x4 : Int32) (s0 : Int32), p_ev scr 111 98 [.ref 24, .ref a, .int x2, .int x3, .int x4] [.int s0, .ref a] w = p_ev scr 111 99 [.ref 24, .ref a, .int x2, .int x3, .int x4] [.int x2, .int s0, .ref a] w) ∧
  (∀ (scr : pX) (w : pW) (x2 : Int32) (x3 : Int32) (x4 : Int32) (s0 : Int32) (s1 : Int32), p_ev scr 111 99 [.ref 24, .ref a, .int x2, .int x3, .int x4] [.int s0, .int s1, .ref a] w = p_ev scr 111 100 [.ref 24, .ref a, .int x2, .int x3, .int x4] [.int (s1 * s0), .ref a] w) ∧
  (∀ (scr : pX) (w : pW) (x2 : Int32) (x3 : Int32) (x4 : Int32) (s0 : Int32), p_ev scr 111 100 [.ref 24, .ref a, .int x2, .int x3, .int x4] [.int s0, .ref a] w = p_ev scr 111 101 [.ref 24, .ref a, .int x2, .int x3, .int x4] [.int (nI 2), .int s0, .ref a] w) ∧
  (∀ (scr : pX) (w : pW) (x2 : Int32) (x3 : Int32) (x4 : Int32) (s0 : Int32) (s1 : Int32), p_ev scr 111 101 [.ref 24, .ref a, .int x2, .int x3, .int x4] [.int s0, .int s1, .ref a] w = p_ev scr 111 103 [.ref 24, .ref a, .int x2, .int x3, .int x4] [.int x4, .int s0, .int s1, .ref a] w) ∧
  (∀ (scr : pX) (w : pW) (x2 : Int32) (x3 : Int32) (x4 : Int32) (s0 : Int32) (s1 : Int32) (s2 : Int32), p_ev scr 111 103 [.ref 24, .ref a, .int x2, .int x3, .int x4] [.int s0, .int s1, .int s2, .ref a] w = p_ev scr 111 104 [.ref 24, .ref a, .int x2, .int x3, .int x4] [.int (s1 * s0), .int s2, .ref a] w) ∧
  (∀ (scr : pX) (w : pW) (x2 : Int32) (x3 : Int32) (x4 : Int32) (s0 : Int32) (s1 : Int32), p_ev scr 111 104 [.ref 24, .ref a, .int x2, .int x3, .int x4] [.int s0, .int s1, .ref a] w = p_ev scr 111 105 [.ref 24, .ref a, .int x2, .int x3, .int x4] [.int (s1 + s0), .ref a] w) ∧
  (∀ (scr : pX) (w : pW) (x2 : Int32) (x3 : Int32) (x4 : Int32) (s0 : Int32), p_ev scr 111 105 [.ref 24, .ref a, .int x2, .int x3, .int x4] [.int s0, .ref a] w = p_ev scr 111 106 [.ref 24, .ref a, .int x2, .int x3, .int x4] [.ref 24, .int s0, .ref a] w) ∧
  (∀ (scr : pX) (w : pW) (x2 : Int32) (x3 : Int32) (x4 : Int32) (s1 : Int32), p_ev scr 111 106 [.ref 24, .ref a, .int x2, .int x3, .int x4] [.ref 24, .int s1, .ref a] w = p_ev scr 111 109 [.ref 24, .ref a, .int x2, .int x3, .int x4] [.ref 27, .int s1, .ref a] w) ∧
  (∀ (scr : pX) (w : pW) (x2 : Int32) (x3 : Int32) (x4 : Int32) (s1 : Int32), p_ev scr 111 109 [.ref 24, .ref a, .int x2, .int x3, .int x4] [.ref 27, .int s1, .ref a] w = p_ev scr 111 111 [.ref 24, .ref a, .int x2, .int x3, .int x4] [.int x4, .ref 27, .int s1, .ref a] w) ∧
  (∀ (scr : pX) (w : pW) (x2 : Int32) (x3 : Int32) (x4 : Int32) (s0 : Int32) (s2 : Int32), p_out s0 16 = false → p_ev scr 111 111 [.ref 24, .ref a, .int x2, .int x3, .int x4] [.int s0, .ref 27, .int s2, .ref a] w = p_ev scr 111 112 [.ref 24, .ref a, .int x2, .int x3, .int x4] [.long (w.2.1 27 s0.toNatClampNeg), .int s2, .ref a] w) ∧
  (∀ (scr : pX) (w : pW) (x2 : Int32) (x3 : Int32) (x4 : Int32) (t0 : Int64) (s1 : Int32), p_out s1 512 = false → p_ev scr 111 112 [.ref 24, .ref a, .int x2, .int x3, .int x4] [.long t0, .int s1, .ref a] w = p_ev scr 111 113 [.ref 24, .ref a, .int x2, .int x3, .int x4] [] (w.1, p_u w.2.1 a s1.toNatClampNeg t0, w.2.2)) ∧
  (∀ (scr : pX) (w : pW) (x2 : Int32) (x3 : Int32) (x4 : Int32), p_ev scr 111 113 [.ref 24, .ref a, .int x2, .int x3, .int x4] [] w = p_ev scr 111 114 [.ref 24, .ref a, .int x2, .int x3, .int x4] [.ref a] w) ∧
  (∀ (scr : pX) (w : pW) (x2 : Int32) (x3 : Int32) (x4 : Int32), p_ev scr 111 114 [.ref 24, .ref a, .int x2, .int x3, .int x4] [.ref a] w = p_ev scr 111 116 [.ref 24, .ref a, .int x2, .int x3, .int x4] [.int (nI 32), .ref a] w) ∧
  (∀ (scr : pX) (w : pW) (x2 : Int32) (x3 : Int32) (x4 : Int32) (s0 : Int32), p_ev scr 111 116 [.ref 24, .ref a, .int x2, .int x3, .int x4] [.int s0, .ref a] w = p_ev scr 111 117 [.ref 24, .ref a, .int x2, .int x3, .int x4] [.int x2, .int s0, .ref a] w) ∧
  (∀ (scr : pX) (w : pW) (x2 : Int32) (x3 : Int32) (x4 : Int32) (s0 : Int32) (s1 : Int32), p_ev scr 111 117 [.ref 24, .ref a, .int x2, .int x3, .int x4] [.int s0, .int s1, .ref a] w = p_ev scr 111 118 [.ref 24, .ref a, .int x2, .int x3, .int x4] [.int (s1 * s0), .ref a] w) ∧
  (∀ (scr : pX) (w : pW) (x2 : Int32) (x3 : Int32) (x4 : Int32) (s0 : Int32), p_ev scr 111 118 [.ref 24, .ref a, .int x2, .int x3, .int x4] [.int s0, .ref a] w = p_ev scr 111 119 [.ref 24, .ref a, .int x2, .int x3, .int x4] [.int (nI 2), .int s0, .ref a] w) ∧
  (∀ (scr : pX) (w : pW) (x2 : Int32) (x3 : Int32) (x4 : Int32) (s0 : Int32) (s1 : Int32), p_ev scr 111 119 [.ref 24, .ref a, .int x2, .int x3, .int x4] [.int s0, .int s1, .ref a] w = p_ev scr 111 121 [.ref 24, .ref a, .int x2, .int x3, .int x4] [.int x4, .int s0, .int s1, .ref a] w) ∧
  (∀ (scr : pX) (w : pW) (x2 : Int32) (x3 : Int32) (x4 : Int32) (s0 : Int32) (s1 : Int32) (s2 : Int32), p_ev scr 111 121 [.ref 24, .ref a, .int x2, .int x3, .int x4] [.int s0, .int s1, .int s2, .ref a] w = p_ev scr 111 122 [.ref 24, .ref a, .int x2, .int x3, .int x4] [.int (s1 * s0), .int s2, .ref a] w) ∧
  (∀ (scr : pX) (w : pW) (x2 : Int32) (x3 : Int32) (x4 : Int32) (s0 : Int32) (s1 : Int32), p_ev scr 111 122 [.ref 24, .ref a, .int x2, .int x3, .int x4] [.int s0, .int s1, .ref a] w = p_ev scr 111 123 [.ref 24, .ref a, .int x2, .int x3, .int x4] [.int (s1 + s0), .ref a] w) ∧
  (∀ (scr : pX) (w : pW) (x2 : Int32) (x3 : Int32) (x4 : Int32) (s0 : Int32), p_ev scr 111 123 [.ref 24, .ref a, .int x2, .int x3, .int x4] [.int s0, .ref a] w = p_ev scr 111 124 [.ref 24, .ref a, .int x2, .int x3, .int x4] [.int (nI 1), .int s0, .ref a] w) ∧
  (∀ (scr : pX) (w : pW) (x2 : Int32) (x3 : Int32) (x4 : Int32) (s0 : Int32) (s1 : Int32), p_ev scr 111 124 [.ref 24, .ref a, .int x2, .int x3, .int x4] [.int s0, .int s1, .ref a] w = p_ev scr 111 125 [.ref 24, .ref a, .int x2, .int x3, .int x4] [.int (s1 + s0), .ref a] w) ∧
  (∀ (scr : pX) (w : pW) (x2 : Int32) (x3 : Int32) (x4 : Int32) (s0 : Int32), p_ev scr 111 125 [.ref 24, .ref a, .int x2, .int x3, .int x4] [.int s0, .ref a] w = p_ev scr 111 126 [.ref 24, .ref a, .int x2, .int x3, .int x4] [.ref 24, .int s0, .ref a] w) ∧
  (∀ (scr : pX) (w : pW) (x2 : Int32) (x3 : Int32) (x4 : Int32) (s1 : Int32), p_ev scr 111 126 [.ref 24, .ref a, .int x2, .int x3, .int x4] [.ref 24, .int s1, .ref a] w = p_ev scr 111 129 [.ref 24, .ref a, .int x2, .int x3, .int x4] [.ref 28, .int s1, .ref a] w) ∧
  (∀ (scr : pX) (w : pW) (x2 : Int32) (x3 : Int32) (x4 : Int32) (s1 : Int32), p_ev scr 111 129 [.ref 24, .ref a, .int x2, .int x3, .int x4] [.ref 28, .int s1, .ref a] w = p_ev scr 111 131 [.ref 24, .ref a, .int x2, .int x3, .int x4] [.int x4, .ref 28, .int s1, .ref a] w) ∧
  (∀ (scr : pX) (w : pW) (x2 : Int32) (x3 : Int32) (x4 : Int32) (s0 : Int32) (s2 : Int32), p_out s0 16 = false → p_ev scr 111 131 [.ref 24, .ref a, .int x2, .int x3, .int x4] [.int s0, .ref 28, .int s2, .ref a] w = p_ev scr 111 132 [.ref 24, .ref a, .int x2, .int x3, .int x4] [.long (w.2.1 28 s0.toNatClampNeg), .int s2, .ref a] w) ∧
  (∀ (scr : pX) (w : pW) (x2 : Int32) (x3 : Int32) (x4 : Int32) (t0 : Int64) (s1 : Int32), p_out s1 512 = false → p_ev scr 111 132 [.ref 24, .ref a, .int x2, .int x3, .int x4] [.long t0, .int s1, .ref a] w = p_ev scr 111 133 [.ref 24, .ref a, .int x2, .int x3, .int x4] [] (w.1, p_u w.2.1 a s1.toNatClampNeg t0, w.2.2)) ∧
  (∀ (scr : pX) (w : pW) (x2 : Int32) (x3 : Int32) (x4 : Int32), p_ev scr 111 133 [.ref 24, .ref a, .int x2, .int x3, .int x4] [] w = p_ev scr 111 136 [.ref 24, .ref a, .int x2, .int x3, .int (x4 + (nI 1))] [] w) ∧
  (∀ (scr : pX) (w : pW) (x2 : Int32) (x3 : Int32) (x4 : Int32), p_ev scr 111 136 [.ref 24, .ref a, .int x2, .int x3, .int x4] [] w = p_ev scr 111 89 [.ref 24, .ref a, .int x2, .int x3, .int x4] [] w) ∧
  (∀ (scr : pX) (w : pW) (x2 : Int32) (x3 : Int32) (x4 : Int32), p_ev scr 111 139 [.ref 24, .ref a, .int x2, .int x3, .int x4] [] w = some (.inl none, w, 0)) :=
  ⟨fun _ _ _ => p_r (by decide +kernel : p_at 111 0 = some (.aload_n 0)) rfl,
  fun _ _ _ => p_r (by decide +kernel : p_at 111 1 = some (.iload_n 2)) rfl,
  fun _ _ _ _ => p_rcv (nl := 4) (by decide +kernel : p_at 111 2 = some (.invokevirtual 113)) (by decide +kernel : p_inv (p_own 111) 113 = some (1, 101, 2)) (by decide +kernel) (rfl : p_ob 24 = some (.inr (5, [some 25, some 26, none, none, none, some 27, some 28, some 29, some 30, some 31, some 32, some 33, some 34, some 35, some 36, some 37, some 38, some 39, none, none, some 40]))) rfl rfl (Nat.le_of_ble_eq_true rfl) (Nat.le_of_ble_eq_true rfl) (Nat.le_of_ble_eq_true rfl) rfl,
  fun _ _ _ _ => p_r (by decide +kernel : p_at 111 5 = some (.iconst 2)) rfl,
  fun _ _ _ _ _ hp => p_ridiv (by decide +kernel : p_at 111 6 = some (.idiv)) hp,
  fun _ _ _ _ => p_r (by decide +kernel : p_at 111 7 = some (.istore_n 3)) rfl,
  fun _ _ _ _ => p_r (by decide +kernel : p_at 111 8 = some (.iconst 0)) rfl,
  fun _ _ _ _ _ => p_r (by decide +kernel : p_at 111 9 = some (.istore 4)) rfl,
  fun _ _ _ _ _ _ => p_r (by decide +kernel : p_at 111 13 = some (.iload_n 3)) rfl,
  fun _ _ _ _ _ _ _ => p_rb2 (c := fun x y => decide (y ≤ x)) (off := 45) (by decide +kernel : p_at 111 14 = some (.if_icmp .ge 45)) (by decide +kernel) rfl rfl rfl,
  fun _ _ _ _ _ => p_r (by decide +kernel : p_at 111 17 = some (.aload_n 0)) rfl,
  fun _ _ _ _ _ => p_rgf (f := some 27) (by decide +kernel : p_at 111 18 = some (.getfield 21)) (by decide +kernel : p_fld (p_own 111) 21 = some (5, 5)) (rfl : p_ob 24 = some (.inr (5, [some 25, some 26, none, none, none, some 27, some 28, some 29, some 30, some 31, some 32, some 33, some 34, some 35, some 36, some 37, some 38, some 39, none, none, some 40]))) rfl,
  fun _ _ _ _ _ => p_r (by decide +kernel : p_at 111 21 = some (.iload 4)) rfl,
  fun _ _ _ _ _ _ => p_r (by decide +kernel : p_at 111 23 = some (.aload_n 1)) rfl,
  fun _ _ _ _ _ _ => p_r (by decide +kernel : p_at 111 24 = some (.bipush 64)) rfl,
  fun _ _ _ _ _ _ _ => p_r (by decide +kernel : p_at 111 26 = some (.iload_n 2)) rfl,
  fun _ _ _ _ _ _ _ _ => p_r (by decide +kernel : p_at 111 27 = some (.imul)) rfl,
  fun _ _ _ _ _ _ _ => p_r (by decide +kernel : p_at 111 28 = some (.iload 4)) rfl,
  fun _ _ _ _ _ _ _ _ => p_r (by decide +kernel : p_at 111 30 = some (.iadd)) rfl,
  fun _ _ _ _ _ _ _ hp => p_rlald (by decide +kernel : p_at 111 31 = some (.laload)) ha hp,
  fun _ _ _ _ _ _ _ hp => p_rlast (by decide +kernel : p_at 111 32 = some (.lastore)) (rfl : p_ob 27 = some (.inl (2, 16))) hp,
  fun _ _ _ _ _ => p_r (by decide +kernel : p_at 111 33 = some (.aload_n 0)) rfl,
  fun _ _ _ _ _ => p_rgf (f := some 28) (by decide +kernel : p_at 111 34 = some (.getfield 24)) (by decide +kernel : p_fld (p_own 111) 24 = some (5, 6)) (rfl : p_ob 24 = some (.inr (5, [some 25, some 26, none, none, none, some 27, some 28, some 29, some 30, some 31, some 32, some 33, some 34, some 35, some 36, some 37, some 38, some 39, none, none, some 40]))) rfl,
  fun _ _ _ _ _ => p_r (by decide +kernel : p_at 111 37 = some (.iload 4)) rfl,
  fun _ _ _ _ _ _ => p_r (by decide +kernel : p_at 111 39 = some (.aload_n 1)) rfl,
  fun _ _ _ _ _ _ => p_r (by decide +kernel : p_at 111 40 = some (.bipush 32)) rfl,
  fun _ _ _ _ _ _ _ => p_r (by decide +kernel : p_at 111 42 = some (.iconst 2)) rfl,
  fun _ _ _ _ _ _ _ _ => p_r (by decide +kernel : p_at 111 43 = some (.iload_n 2)) rfl,
  fun _ _ _ _ _ _ _ _ _ => p_r (by decide +kernel : p_at 111 44 = some (.imul)) rfl,
  fun _ _ _ _ _ _ _ _ => p_r (by decide +kernel : p_at 111 45 = some (.iconst 1)) rfl,
  fun _ _ _ _ _ _ _ _ _ => p_r (by decide +kernel : p_at 111 46 = some (.iadd)) rfl,
  fun _ _ _ _ _ _ _ _ => p_r (by decide +kernel : p_at 111 47 = some (.imul)) rfl,
  fun _ _ _ _ _ _ _ => p_r (by decide +kernel : p_at 111 48 = some (.iload 4)) rfl,
  fun _ _ _ _ _ _ _ _ => p_r (by decide +kernel : p_at 111 50 = some (.iadd)) rfl,
  fun _ _ _ _ _ _ _ hp => p_rlald (by decide +kernel : p_at 111 51 = some (.laload)) ha hp,
  fun _ _ _ _ _ _ _ hp => p_rlast (by decide +kernel : p_at 111 52 = some (.lastore)) (rfl : p_ob 28 = some (.inl (2, 16))) hp,
  fun _ _ _ _ _ => p_r (by decide +kernel : p_at 111 53 = some (.iinc 4 1)) rfl,
  fun _ _ _ _ _ => p_rgo (by decide +kernel : p_at 111 56 = some (.goto (-45))) (by decide +kernel),
  fun _ _ _ _ _ => p_r (by decide +kernel : p_at 111 59 = some (.aload_n 0)) rfl,
  fun _ _ _ _ _ => p_rcv (nl := 1) (by decide +kernel : p_at 111 60 = some (.invokevirtual 116)) (by decide +kernel : p_inv (p_own 111) 116 = some (1, 108, 1)) (by decide +kernel) (rfl : p_ob 24 = some (.inr (5, [some 25, some 26, none, none, none, some 27, some 28, some 29, some 30, some 31, some 32, some 33, some 34, some 35, some 36, some 37, some 38, some 39, none, none, some 40]))) rfl rfl (Nat.le_of_ble_eq_true rfl) (Nat.le_of_ble_eq_true rfl) (Nat.le_of_ble_eq_true rfl) rfl,
  fun _ _ _ _ _ _ => p_r (by decide +kernel : p_at 111 63 = some (.iconst 1)) rfl,
  fun _ _ _ _ _ _ _ => p_r (by decide +kernel : p_at 111 64 = some (.isub)) rfl,
  fun _ _ _ _ _ _ => p_r (by decide +kernel : p_at 111 65 = some (.istore 4)) rfl,
  fun _ _ _ _ _ _ => p_rb1 (c := fun x => decide (x < 0)) (off := 17) (by decide +kernel : p_at 111 69 = some (.ifCond .lt 17)) (by decide +kernel) rfl rfl rfl,
  fun _ _ _ _ _ => p_r (by decide +kernel : p_at 111 72 = some (.aload_n 0)) rfl,
  fun _ _ _ _ _ => p_r (by decide +kernel : p_at 111 73 = some (.iload 4)) rfl,
  fun _ _ _ _ _ _ => p_r (by decide +kernel : p_at 111 75 = some (.iload_n 3)) rfl,
  fun _ _ _ _ _ _ _ => p_r (by decide +kernel : p_at 111 76 = some (.iconst (-1))) rfl,
  fun _ _ _ _ _ _ _ _ => p_rcv (nl := 5) (by decide +kernel : p_at 111 77 = some (.invokevirtual 120)) (by decide +kernel : p_inv (p_own 111) 120 = some (1, 109, 4)) (by decide +kernel) (rfl : p_ob 24 = some (.inr (5, [some 25, some 26, none, none, none, some 27, some 28, some 29, some 30, some 31, some 32, some 33, some 34, some 35, some 36, some 37, some 38, some 39, none, none, some 40]))) rfl rfl (Nat.le_of_ble_eq_true rfl) (Nat.le_of_ble_eq_true rfl) (Nat.le_of_ble_eq_true rfl) rfl,
  fun _ _ _ _ _ => p_r (by decide +kernel : p_at 111 80 = some (.iinc 4 (-1))) rfl,
  fun _ _ _ _ _ => p_rgo (by decide +kernel : p_at 111 83 = some (.goto (-16))) (by decide +kernel),
  fun _ _ _ _ _ => p_r (by decide +kernel : p_at 111 86 = some (.iconst 0)) rfl,
  fun _ _ _ _ _ _ => p_r (by decide +kernel : p_at 111 87 = some (.istore 4)) rfl,
  fun _ _ _ _ _ _ => p_r (by decide +kernel : p_at 111 91 = some (.iload_n 3)) rfl,
  fun _ _ _ _ _ _ _ => p_rb2 (c := fun x y => decide (y ≤ x)) (off := 47) (by decide +kernel : p_at 111 92 = some (.if_icmp .ge 47)) (by decide +kernel) rfl rfl rfl,
  fun _ _ _ _ _ => p_r (by decide +kernel : p_at 111 95 = some (.aload_n 1)) rfl,
  fun _ _ _ _ _ => p_r (by decide +kernel : p_at 111 96 = some (.bipush 32)) rfl,
  fun _ _ _ _ _ _ => p_r (by decide +kernel : p_at 111 98 = some (.iload_n 2)) rfl,
  fun _ _ _ _ _ _ _ => p_r (by decide +kernel : p_at 111 99 = some (.imul)) rfl,
  fun _ _ _ _ _ _ => p_r (by decide +kernel : p_at 111 100 = some (.iconst 2)) rfl,
  fun _ _ _ _ _ _ _ => p_r (by decide +kernel : p_at 111 101 = some (.iload 4)) rfl,
  fun _ _ _ _ _ _ _ _ => p_r (by decide +kernel : p_at 111 103 = some (.imul)) rfl,
  fun _ _ _ _ _ _ _ => p_r (by decide +kernel : p_at 111 104 = some (.iadd)) rfl,
  fun _ _ _ _ _ _ => p_r (by decide +kernel : p_at 111 105 = some (.aload_n 0)) rfl,
  fun _ _ _ _ _ _ => p_rgf (f := some 27) (by decide +kernel : p_at 111 106 = some (.getfield 21)) (by decide +kernel : p_fld (p_own 111) 21 = some (5, 5)) (rfl : p_ob 24 = some (.inr (5, [some 25, some 26, none, none, none, some 27, some 28, some 29, some 30, some 31, some 32, some 33, some 34, some 35, some 36, some 37, some 38, some 39, none, none, some 40]))) rfl,
  fun _ _ _ _ _ _ => p_r (by decide +kernel : p_at 111 109 = some (.iload 4)) rfl,
  fun _ _ _ _ _ _ _ hp => p_rlald (by decide +kernel : p_at 111 111 = some (.laload)) (rfl : p_ob 27 = some (.inl (2, 16))) hp,
  fun _ _ _ _ _ _ _ hp => p_rlast (by decide +kernel : p_at 111 112 = some (.lastore)) ha hp,
  fun _ _ _ _ _ => p_r (by decide +kernel : p_at 111 113 = some (.aload_n 1)) rfl,
  fun _ _ _ _ _ => p_r (by decide +kernel : p_at 111 114 = some (.bipush 32)) rfl,
  fun _ _ _ _ _ _ => p_r (by decide +kernel : p_at 111 116 = some (.iload_n 2)) rfl,
  fun _ _ _ _ _ _ _ => p_r (by decide +kernel : p_at 111 117 = some (.imul)) rfl,
  fun _ _ _ _ _ _ => p_r (by decide +kernel : p_at 111 118 = some (.iconst 2)) rfl,
  fun _ _ _ _ _ _ _ => p_r (by decide +kernel : p_at 111 119 = some (.iload 4)) rfl,
  fun _ _ _ _ _ _ _ _ => p_r (by decide +kernel : p_at 111 121 = some (.imul)) rfl,
  fun _ _ _ _ _ _ _ => p_r (by decide +kernel : p_at 111 122 = some (.iadd)) rfl,
  fun _ _ _ _ _ _ => p_r (by decide +kernel : p_at 111 123 = some (.iconst 1)) rfl,
  fun _ _ _ _ _ _ _ => p_r (by decide +kernel : p_at 111 124 = some (.iadd)) rfl,
  fun _ _ _ _ _ _ => p_r (by decide +kernel : p_at 111 125 = some (.aload_n 0)) rfl,
  fun _ _ _ _ _ _ => p_rgf (f := some 28) (by decide +kernel : p_at 111 126 = some (.getfield 24)) (by decide +kernel : p_fld (p_own 111) 24 = some (5, 6)) (rfl : p_ob 24 = some (.inr (5, [some 25, some 26, none, none, none, some 27, some 28, some 29, some 30, some 31, some 32, some 33, some 34, some 35, some 36, some 37, some 38, some 39, none, none, some 40]))) rfl,
  fun _ _ _ _ _ _ => p_r (by decide +kernel : p_at 111 129 = some (.iload 4)) rfl,
  fun _ _ _ _ _ _ _ hp => p_rlald (by decide +kernel : p_at 111 131 = some (.laload)) (rfl : p_ob 28 = some (.inl (2, 16))) hp,
  fun _ _ _ _ _ _ _ hp => p_rlast (by decide +kernel : p_at 111 132 = some (.lastore)) ha hp,
  fun _ _ _ _ _ => p_r (by decide +kernel : p_at 111 133 = some (.iinc 4 1)) rfl,
  fun _ _ _ _ _ => p_rgo (by decide +kernel : p_at 111 136 = some (.goto (-47))) (by decide +kernel),
  fun _ _ _ _ _ => p_rvret (by decide +kernel : p_at 111 139 = some (.return_)) (by decide +kernel)⟩
theorem H111_11 (a : Nat) (ha : p_lg a) :
  (∀ (scr : pX) (w : pW) (x2 : Int32) (x3 : Int32) (x4 : Int32), p_ev scr 111 11 [.ref 24, .ref a, .int x2, .int x3, .int x4] [] w = p_ev scr 111 13 [.ref 24, .ref a, .int x2, .int x3, .int x4] [.int x4] w) :=
  fun _ _ _ _ _ => p_r (by decide +kernel : p_at 111 11 = some (.iload 4)) rfl
theorem H111_67 (a : Nat) (ha : p_lg a) :
  (∀ (scr : pX) (w : pW) (x2 : Int32) (x3 : Int32) (x4 : Int32), p_ev scr 111 67 [.ref 24, .ref a, .int x2, .int x3, .int x4] [] w = p_ev scr 111 69 [.ref 24, .ref a, .int x2, .int x3, .int x4] [.int x4] w) :=
  fun _ _ _ _ _ => p_r (by decide +kernel : p_at 111 67 = some (.iload 4)) rfl
theorem H111_89 (a : Nat) (ha : p_lg a) :
  (∀ (scr : pX) (w : pW) (x2 : Int32) (x3 : Int32) (x4 : Int32), p_ev scr 111 89 [.ref 24, .ref a, .int x2, .int x3, .int x4] [] w = p_ev scr 111 91 [.ref 24, .ref a, .int x2, .int x3, .int x4] [.int x4] w) :=
  fun _ _ _ _ _ => p_r (by decide +kernel : p_at 111 89 = some (.iload 4)) rfl
-- 112: joinAll
theorem M112 (a : Nat) (ha : p_lg a) :
  (∀ (scr : pX) (w : pW), p_ev scr 112 0 [.ref 24, .ref a, p_U] [] w = p_ev scr 112 2 [.ref 24, .ref a, p_U] [.int (nI 7)] w) ∧
  (∀ (scr : pX) (w : pW) (s0 : Int32), p_ev scr 112 2 [.ref 24, .ref a, p_U] [.int s0] w = p_ev scr 112 3 [.ref 24, .ref a, .int s0] [] w) ∧
  (∀ (scr : pX) (w : pW) (x2 : Int32) (s0 : Int32), p_ev scr 112 4 [.ref 24, .ref a, .int x2] [.int s0] w = if s0 ≤ nI 0 then p_ev scr 112 29 [.ref 24, .ref a, .int x2] [] w else p_ev scr 112 7 [.ref 24, .ref a, .int x2] [] w) ∧
  (∀ (scr : pX) (w : pW) (x2 : Int32), p_ev scr 112 7 [.ref 24, .ref a, .int x2] [] w = p_ev scr 112 8 [.ref 24, .ref a, .int x2] [.ref 24] w) ∧
  (∀ (scr : pX) (w : pW) (x2 : Int32), p_ev scr 112 8 [.ref 24, .ref a, .int x2] [.ref 24] w = p_ev scr 112 11 [.ref 24, .ref a, .int x2] [.ref 25] w) ∧
  (∀ (scr : pX) (w : pW) (x2 : Int32), p_ev scr 112 11 [.ref 24, .ref a, .int x2] [.ref 25] w = p_ev scr 112 12 [.ref 24, .ref a, .int x2] [.int x2, .ref 25] w) ∧
  (∀ (scr : pX) (w : pW) (x2 : Int32) (s0 : Int32), p_out s0 16 = false → p_ev scr 112 12 [.ref 24, .ref a, .int x2] [.int s0, .ref 25] w = p_ev scr 112 13 [.ref 24, .ref a, .int x2] [.int (w.2.2 25 s0.toNatClampNeg)] w) ∧
  (∀ (scr : pX) (w : pW) (x2 : Int32) (s0 : Int32), p_ev scr 112 13 [.ref 24, .ref a, .int x2] [.int s0] w = p_ev scr 112 14 [.ref 24, .ref a, .int x2] [.int (nI 2), .int s0] w) ∧
  (∀ (scr : pX) (w : pW) (x2 : Int32) (s0 : Int32) (s1 : Int32), p_ev scr 112 14 [.ref 24, .ref a, .int x2] [.int s0, .int s1] w = if ¬ s1 = s0 then p_ev scr 112 23 [.ref 24, .ref a, .int x2] [] w else p_ev scr 112 17 [.ref 24, .ref a, .int x2] [] w) ∧
  (∀ (scr : pX) (w : pW) (x2 : Int32), p_ev scr 112 17 [.ref 24, .ref a, .int x2] [] w = p_ev scr 112 18 [.ref 24, .ref a, .int x2] [.ref 24] w) ∧
  (∀ (scr : pX) (w : pW) (x2 : Int32), p_ev scr 112 18 [.ref 24, .ref a, .int x2] [.ref 24] w = p_ev scr 112 19 [.ref 24, .ref a, .int x2] [.ref a, .ref 24] w) ∧
  (∀ (scr : pX) (w : pW) (x2 : Int32), p_ev scr 112 19 [.ref 24, .ref a, .int x2] [.ref a, .ref 24] w = p_ev scr 112 20 [.ref 24, .ref a, .int x2] [.int x2, .ref a, .ref 24] w) ∧
  (∀ (scr : pX) (w : pW) (x2 : Int32) (s0 : Int32), p_ev scr 112 20 [.ref 24, .ref a, .int x2] [.int s0, .ref a, .ref 24] w = p_bnd scr 112 20 23 [.ref 24, .ref a, .int x2] [] (p_ev none 111 0 [.ref 24, .ref a, .int s0, p_U, p_U] [] w)) ∧
  (∀ (scr : pX) (w : pW) (x2 : Int32), p_ev scr 112 23 [.ref 24, .ref a, .int x2] [] w = p_ev scr 112 26 [.ref 24, .ref a, .int (x2 + (-1 : Int32))] [] w) ∧
  (∀ (scr : pX) (w : pW) (x2 : Int32), p_ev scr 112 26 [.ref 24, .ref a, .int x2] [] w = p_ev scr 112 3 [.ref 24, .ref a, .int x2] [] w) ∧
  (∀ (scr : pX) (w : pW) (x2 : Int32), p_ev scr 112 29 [.ref 24, .ref a, .int x2] [] w = some (.inl none, w, 0)) :=
  ⟨fun _ _ => p_r (by decide +kernel : p_at 112 0 = some (.bipush 7)) rfl,
  fun _ _ _ => p_r (by decide +kernel : p_at 112 2 = some (.istore_n 2)) rfl,
  fun _ _ _ _ => p_rb1 (c := fun x => decide (x ≤ 0)) (off := 25) (by decide +kernel : p_at 112 4 = some (.ifCond .le 25)) (by decide +kernel) rfl rfl rfl,
  fun _ _ _ => p_r (by decide +kernel : p_at 112 7 = some (.aload_n 0)) rfl,
  fun _ _ _ => p_rgf (f := some 25) (by decide +kernel : p_at 112 8 = some (.getfield 7)) (by decide +kernel : p_fld (p_own 112) 7 = some (5, 0)) (rfl : p_ob 24 = some (.inr (5, [some 25, some 26, none, none, none, some 27, some 28, some 29, some 30, some 31, some 32, some 33, some 34, some 35, some 36, some 37, some 38, some 39, none, none, some 40]))) rfl,
  fun _ _ _ => p_r (by decide +kernel : p_at 112 11 = some (.iload_n 2)) rfl,
  fun _ _ _ _ hp => p_riald (by decide +kernel : p_at 112 12 = some (.iaload)) (rfl : p_ob 25 = some (.inl (1, 16))) hp,
  fun _ _ _ _ => p_r (by decide +kernel : p_at 112 13 = some (.iconst 2)) rfl,
  fun _ _ _ _ _ => p_rb2 (c := fun x y => decide (¬ x = y)) (off := 9) (by decide +kernel : p_at 112 14 = some (.if_icmp .ne 9)) (by decide +kernel) rfl rfl rfl,
  fun _ _ _ => p_r (by decide +kernel : p_at 112 17 = some (.aload_n 0)) rfl,
  fun _ _ _ => p_r (by decide +kernel : p_at 112 18 = some (.aload_n 1)) rfl,
  fun _ _ _ => p_r (by decide +kernel : p_at 112 19 = some (.iload_n 2)) rfl,
  fun _ _ _ _ => p_rcv (nl := 5) (by decide +kernel : p_at 112 20 = some (.invokevirtual 124)) (by decide +kernel : p_inv (p_own 112) 124 = some (1, 111, 3)) (by decide +kernel) (rfl : p_ob 24 = some (.inr (5, [some 25, some 26, none, none, none, some 27, some 28, some 29, some 30, some 31, some 32, some 33, some 34, some 35, some 36, some 37, some 38, some 39, none, none, some 40]))) rfl rfl (Nat.le_of_ble_eq_true rfl) (Nat.le_of_ble_eq_true rfl) (Nat.le_of_ble_eq_true rfl) rfl,
  fun _ _ _ => p_r (by decide +kernel : p_at 112 23 = some (.iinc 2 (-1))) rfl,
  fun _ _ _ => p_rgo (by decide +kernel : p_at 112 26 = some (.goto (-23))) (by decide +kernel),
  fun _ _ _ => p_rvret (by decide +kernel : p_at 112 29 = some (.return_)) (by decide +kernel)⟩
theorem H112_3 (a : Nat) (ha : p_lg a) :
  (∀ (scr : pX) (w : pW) (x2 : Int32), p_ev scr 112 3 [.ref 24, .ref a, .int x2] [] w = p_ev scr 112 4 [.ref 24, .ref a, .int x2] [.int x2] w) :=
  fun _ _ _ => p_r (by decide +kernel : p_at 112 3 = some (.iload_n 2)) rfl
-- 113: laySamples
theorem M113 :
  (∀ (scr : pX) (w : pW), p_ev scr 113 0 [.ref 24, p_U] [] w = p_ev scr 113 1 [.ref 24, p_U] [.int (nI 0)] w) ∧
  (∀ (scr : pX) (w : pW) (s0 : Int32), p_ev scr 113 1 [.ref 24, p_U] [.int s0] w = p_ev scr 113 2 [.ref 24, .int s0] [] w) ∧
  (∀ (scr : pX) (w : pW) (x1 : Int32) (s0 : Int32), p_ev scr 113 3 [.ref 24, .int x1] [.int s0] w = p_ev scr 113 6 [.ref 24, .int x1] [.int (nI 512), .int s0] w) ∧
  (∀ (scr : pX) (w : pW) (x1 : Int32) (s0 : Int32) (s1 : Int32), p_ev scr 113 6 [.ref 24, .int x1] [.int s0, .int s1] w = if s0 ≤ s1 then p_ev scr 113 27 [.ref 24, .int x1] [] w else p_ev scr 113 9 [.ref 24, .int x1] [] w) ∧
  (∀ (scr : pX) (w : pW) (x1 : Int32), p_ev scr 113 9 [.ref 24, .int x1] [] w = p_ev scr 113 10 [.ref 24, .int x1] [.ref 24] w) ∧
  (∀ (scr : pX) (w : pW) (x1 : Int32), p_ev scr 113 10 [.ref 24, .int x1] [.ref 24] w = p_ev scr 113 13 [.ref 24, .int x1] [.ref 29] w) ∧
  (∀ (scr : pX) (w : pW) (x1 : Int32), p_ev scr 113 13 [.ref 24, .int x1] [.ref 29] w = p_ev scr 113 14 [.ref 24, .int x1] [.int x1, .ref 29] w) ∧
  (∀ (scr : pX) (w : pW) (x1 : Int32) (s0 : Int32), p_ev scr 113 14 [.ref 24, .int x1] [.int s0, .ref 29] w = p_ev scr 113 15 [.ref 24, .int x1] [.ref 24, .int s0, .ref 29] w) ∧
  (∀ (scr : pX) (w : pW) (x1 : Int32) (s1 : Int32), p_ev scr 113 15 [.ref 24, .int x1] [.ref 24, .int s1, .ref 29] w = p_ev scr 113 18 [.ref 24, .int x1] [.ref 26, .int s1, .ref 29] w) ∧
  (∀ (scr : pX) (w : pW) (x1 : Int32) (s1 : Int32), p_ev scr 113 18 [.ref 24, .int x1] [.ref 26, .int s1, .ref 29] w = p_ev scr 113 19 [.ref 24, .int x1] [.int x1, .ref 26, .int s1, .ref 29] w) ∧
  (∀ (scr : pX) (w : pW) (x1 : Int32) (s0 : Int32) (s2 : Int32), p_out s0 512 = false → p_ev scr 113 19 [.ref 24, .int x1] [.int s0, .ref 26, .int s2, .ref 29] w = p_ev scr 113 20 [.ref 24, .int x1] [.long (w.2.1 26 s0.toNatClampNeg), .int s2, .ref 29] w) ∧
  (∀ (scr : pX) (w : pW) (x1 : Int32) (t0 : Int64) (s1 : Int32), p_out s1 512 = false → p_ev scr 113 20 [.ref 24, .int x1] [.long t0, .int s1, .ref 29] w = p_ev scr 113 21 [.ref 24, .int x1] [] (w.1, p_u w.2.1 29 s1.toNatClampNeg t0, w.2.2)) ∧
  (∀ (scr : pX) (w : pW) (x1 : Int32), p_ev scr 113 21 [.ref 24, .int x1] [] w = p_ev scr 113 24 [.ref 24, .int (x1 + (nI 1))] [] w) ∧
  (∀ (scr : pX) (w : pW) (x1 : Int32), p_ev scr 113 24 [.ref 24, .int x1] [] w = p_ev scr 113 2 [.ref 24, .int x1] [] w) ∧
  (∀ (scr : pX) (w : pW) (x1 : Int32), p_ev scr 113 27 [.ref 24, .int x1] [] w = p_ev scr 113 28 [.ref 24, .int x1] [.ref 24] w) ∧
  (∀ (scr : pX) (w : pW) (x1 : Int32), p_ev scr 113 28 [.ref 24, .int x1] [.ref 24] w = p_ev scr 113 29 [.ref 24, .int x1] [.ref 24, .ref 24] w) ∧
  (∀ (scr : pX) (w : pW) (x1 : Int32), p_ev scr 113 29 [.ref 24, .int x1] [.ref 24, .ref 24] w = p_ev scr 113 32 [.ref 24, .int x1] [.ref 29, .ref 24] w) ∧
  (∀ (scr : pX) (w : pW) (x1 : Int32), p_ev scr 113 32 [.ref 24, .int x1] [.ref 29, .ref 24] w = p_bnd scr 113 32 35 [.ref 24, .int x1] [] (p_ev none 112 0 [.ref 24, .ref 29, p_U] [] w)) ∧
  (∀ (scr : pX) (w : pW) (x1 : Int32), p_ev scr 113 35 [.ref 24, .int x1] [] w = some (.inl none, w, 0)) :=
  ⟨fun _ _ => p_r (by decide +kernel : p_at 113 0 = some (.iconst 0)) rfl,
  fun _ _ _ => p_r (by decide +kernel : p_at 113 1 = some (.istore_n 1)) rfl,
  fun _ _ _ _ => p_r (by decide +kernel : p_at 113 3 = some (.sipush 512)) rfl,
  fun _ _ _ _ _ => p_rb2 (c := fun x y => decide (y ≤ x)) (off := 21) (by decide +kernel : p_at 113 6 = some (.if_icmp .ge 21)) (by decide +kernel) rfl rfl rfl,
  fun _ _ _ => p_r (by decide +kernel : p_at 113 9 = some (.aload_n 0)) rfl,
  fun _ _ _ => p_rgf (f := some 29) (by decide +kernel : p_at 113 10 = some (.getfield 27)) (by decide +kernel : p_fld (p_own 113) 27 = some (5, 7)) (rfl : p_ob 24 = some (.inr (5, [some 25, some 26, none, none, none, some 27, some 28, some 29, some 30, some 31, some 32, some 33, some 34, some 35, some 36, some 37, some 38, some 39, none, none, some 40]))) rfl,
  fun _ _ _ => p_r (by decide +kernel : p_at 113 13 = some (.iload_n 1)) rfl,
  fun _ _ _ _ => p_r (by decide +kernel : p_at 113 14 = some (.aload_n 0)) rfl,
  fun _ _ _ _ => p_rgf (f := some 26) (by decide +kernel : p_at 113 15 = some (.getfield 13)) (by decide +kernel : p_fld (p_own 113) 13 = some (5, 1)) (rfl : p_ob 24 = some (.inr (5, [some 25, some 26, none, none, none, some 27, some 28, some 29, some 30, some 31, some 32, some 33, some 34, some 35, some 36, some 37, some 38, some 39, none, none, some 40]))) rfl,
  fun _ _ _ _ => p_r (by decide +kernel : p_at 113 18 = some (.iload_n 1)) rfl,
  fun _ _ _ _ _ hp => p_rlald (by decide +kernel : p_at 113 19 = some (.laload)) (rfl : p_ob 26 = some (.inl (2, 512))) hp,
  fun _ _ _ _ _ hp => p_rlast (by decide +kernel : p_at 113 20 = some (.lastore)) (rfl : p_ob 29 = some (.inl (2, 512))) hp,
  fun _ _ _ => p_r (by decide +kernel : p_at 113 21 = some (.iinc 1 1)) rfl,
  fun _ _ _ => p_rgo (by decide +kernel : p_at 113 24 = some (.goto (-22))) (by decide +kernel),
  fun _ _ _ => p_r (by decide +kernel : p_at 113 27 = some (.aload_n 0)) rfl,
  fun _ _ _ => p_r (by decide +kernel : p_at 113 28 = some (.aload_n 0)) rfl,
  fun _ _ _ => p_rgf (f := some 29) (by decide +kernel : p_at 113 29 = some (.getfield 27)) (by decide +kernel : p_fld (p_own 113) 27 = some (5, 7)) (rfl : p_ob 24 = some (.inr (5, [some 25, some 26, none, none, none, some 27, some 28, some 29, some 30, some 31, some 32, some 33, some 34, some 35, some 36, some 37, some 38, some 39, none, none, some 40]))) rfl,
  fun _ _ _ => p_rcv (nl := 3) (by decide +kernel : p_at 113 32 = some (.invokevirtual 128)) (by decide +kernel : p_inv (p_own 113) 128 = some (1, 112, 2)) (by decide +kernel) (rfl : p_ob 24 = some (.inr (5, [some 25, some 26, none, none, none, some 27, some 28, some 29, some 30, some 31, some 32, some 33, some 34, some 35, some 36, some 37, some 38, some 39, none, none, some 40]))) rfl rfl (Nat.le_of_ble_eq_true rfl) (Nat.le_of_ble_eq_true rfl) (Nat.le_of_ble_eq_true rfl) rfl,
  fun _ _ _ => p_rvret (by decide +kernel : p_at 113 35 = some (.return_)) (by decide +kernel)⟩
theorem H113_2 :
  (∀ (scr : pX) (w : pW) (x1 : Int32), p_ev scr 113 2 [.ref 24, .int x1] [] w = p_ev scr 113 3 [.ref 24, .int x1] [.int x1] w) :=
  fun _ _ _ => p_r (by decide +kernel : p_at 113 2 = some (.iload_n 1)) rfl
-- 114: sample
theorem M114 :
  (∀ (scr : pX) (w : pW) (x1 : Int32), p_ev scr 114 0 [.ref 24, .int x1] [] w = p_ev scr 114 1 [.ref 24, .int x1] [.ref 24] w) ∧
  (∀ (scr : pX) (w : pW) (x1 : Int32), p_ev scr 114 1 [.ref 24, .int x1] [.ref 24] w = p_ev scr 114 2 [.ref 24, .int x1] [.int (nI 0), .ref 24] w) ∧
  (∀ (scr : pX) (w : pW) (x1 : Int32) (s0 : Int32), p_ev scr 114 2 [.ref 24, .int x1] [.int s0, .ref 24] w = p_ev scr 114 5 [.ref 24, .int x1] [] (p_u w.1 24 4 s0, w.2)) ∧
  (∀ (scr : pX) (w : pW) (x1 : Int32), p_ev scr 114 5 [.ref 24, .int x1] [] w = p_ev scr 114 6 [.ref 24, .int x1] [.int x1] w) ∧
  (∀ (scr : pX) (w : pW) (x1 : Int32) (s0 : Int32), p_ev scr 114 6 [.ref 24, .int x1] [.int s0] w = p_ev scr 114 7 [.ref 24, .int x1] [.int (nI 0), .int s0] w) ∧
  (∀ (scr : pX) (w : pW) (x1 : Int32) (s0 : Int32) (s1 : Int32), p_ev scr 114 7 [.ref 24, .int x1] [.int s0, .int s1] w = p_ev scr 114 8 [.ref 24, .int x1] [.ref 24, .int s0, .int s1] w) ∧
  (∀ (scr : pX) (w : pW) (x1 : Int32) (s1 : Int32) (s2 : Int32), p_ev scr 114 8 [.ref 24, .int x1] [.ref 24, .int s1, .int s2] w = p_ev scr 114 11 [.ref 24, .int x1] [.int (w.1 24 2), .int s1, .int s2] w) ∧
  (∀ (scr : pX) (w : pW) (x1 : Int32) (s0 : Int32) (s1 : Int32) (s2 : Int32), p_ev scr 114 11 [.ref 24, .int x1] [.int s0, .int s1, .int s2] w = p_ev scr 114 12 [.ref 24, .int x1] [.int (nI 1), .int s0, .int s1, .int s2] w) ∧
  (∀ (scr : pX) (w : pW) (x1 : Int32) (s0 : Int32) (s1 : Int32) (s2 : Int32) (s3 : Int32), p_ev scr 114 12 [.ref 24, .int x1] [.int s0, .int s1, .int s2, .int s3] w = p_ev scr 114 13 [.ref 24, .int x1] [.int (s1 - s0), .int s2, .int s3] w) ∧
  (∀ (scr : pX) (w : pW) (x1 : Int32) (s0 : Int32) (s1 : Int32) (s2 : Int32), p_ev scr 114 13 [.ref 24, .int x1] [.int s0, .int s1, .int s2] w = p_bnd scr 114 13 16 [.ref 24, .int x1] [] (p_ev none 97 0 [.int s2, .int s1, .int s0] [] w)) ∧
  (∀ (scr : pX) (w : pW) (x1 : Int32) (s0 : Int32), p_ev scr 114 16 [.ref 24, .int x1] [.int s0] w = if ¬ s0 = nI 0 then p_ev scr 114 26 [.ref 24, .int x1] [] w else p_ev scr 114 19 [.ref 24, .int x1] [] w) ∧
  (∀ (scr : pX) (w : pW) (x1 : Int32), p_ev scr 114 19 [.ref 24, .int x1] [] w = p_ev scr 114 20 [.ref 24, .int x1] [.ref 24] w) ∧
  (∀ (scr : pX) (w : pW) (x1 : Int32), p_ev scr 114 20 [.ref 24, .int x1] [.ref 24] w = p_ev scr 114 21 [.ref 24, .int x1] [.int (nI 1), .ref 24] w) ∧
  (∀ (scr : pX) (w : pW) (x1 : Int32) (s0 : Int32), p_ev scr 114 21 [.ref 24, .int x1] [.int s0, .ref 24] w = p_bnd scr 114 21 24 [.ref 24, .int x1] [] (p_ev none 96 0 [.ref 24, .int s0] [] w)) ∧
  (∀ (scr : pX) (w : pW) (x1 : Int32) (s0 : Int32), p_ev scr 114 24 [.ref 24, .int x1] [.int s0] w = p_ev scr 114 25 [.ref 24, .int x1] [.long s0.toInt64] w) ∧
  (∀ (scr : pX) (w : pW) (x1 : Int32) (t0 : Int64), p_ev scr 114 25 [.ref 24, .int x1] [.long t0] w = some (.inl (some (.long t0)), w, 0)) ∧
  (∀ (scr : pX) (w : pW) (x1 : Int32), p_ev scr 114 26 [.ref 24, .int x1] [] w = p_ev scr 114 27 [.ref 24, .int x1] [.ref 24] w) ∧
  (∀ (scr : pX) (w : pW) (x1 : Int32), p_ev scr 114 27 [.ref 24, .int x1] [.ref 24] w = p_bnd scr 114 27 30 [.ref 24, .int x1] [] (p_ev none 113 0 [.ref 24, p_U] [] w)) ∧
  (∀ (scr : pX) (w : pW) (x1 : Int32), p_ev scr 114 30 [.ref 24, .int x1] [] w = p_ev scr 114 31 [.ref 24, .int x1] [.ref 24] w) ∧
  (∀ (scr : pX) (w : pW) (x1 : Int32), p_ev scr 114 31 [.ref 24, .int x1] [.ref 24] w = p_ev scr 114 34 [.ref 24, .int x1] [.ref 29] w) ∧
  (∀ (scr : pX) (w : pW) (x1 : Int32), p_ev scr 114 34 [.ref 24, .int x1] [.ref 29] w = p_ev scr 114 36 [.ref 24, .int x1] [.int (nI 32), .ref 29] w) ∧
  (∀ (scr : pX) (w : pW) (x1 : Int32) (s0 : Int32), p_ev scr 114 36 [.ref 24, .int x1] [.int s0, .ref 29] w = p_ev scr 114 37 [.ref 24, .int x1] [.int x1, .int s0, .ref 29] w) ∧
  (∀ (scr : pX) (w : pW) (x1 : Int32) (s0 : Int32) (s1 : Int32), p_ev scr 114 37 [.ref 24, .int x1] [.int s0, .int s1, .ref 29] w = p_ev scr 114 38 [.ref 24, .int x1] [.int (s1 + s0), .ref 29] w) ∧
  (∀ (scr : pX) (w : pW) (x1 : Int32) (s0 : Int32), p_out s0 512 = false → p_ev scr 114 38 [.ref 24, .int x1] [.int s0, .ref 29] w = p_ev scr 114 39 [.ref 24, .int x1] [.long (w.2.1 29 s0.toNatClampNeg)] w) ∧
  (∀ (scr : pX) (w : pW) (x1 : Int32) (t0 : Int64), p_ev scr 114 39 [.ref 24, .int x1] [.long t0] w = some (.inl (some (.long t0)), w, 0)) :=
  ⟨fun _ _ _ => p_r (by decide +kernel : p_at 114 0 = some (.aload_n 0)) rfl,
  fun _ _ _ => p_r (by decide +kernel : p_at 114 1 = some (.iconst 0)) rfl,
  fun _ _ _ _ => p_rpf (by decide +kernel : p_at 114 2 = some (.putfield 63)) (by decide +kernel : p_fld (p_own 114) 63 = some (5, 4)) (rfl : p_ob 24 = some (.inr (5, [some 25, some 26, none, none, none, some 27, some 28, some 29, some 30, some 31, some 32, some 33, some 34, some 35, some 36, some 37, some 38, some 39, none, none, some 40]))) rfl,
  fun _ _ _ => p_r (by decide +kernel : p_at 114 5 = some (.iload_n 1)) rfl,
  fun _ _ _ _ => p_r (by decide +kernel : p_at 114 6 = some (.iconst 0)) rfl,
  fun _ _ _ _ _ => p_r (by decide +kernel : p_at 114 7 = some (.aload_n 0)) rfl,
  fun _ _ _ _ _ => p_rgf (f := none) (by decide +kernel : p_at 114 8 = some (.getfield 17)) (by decide +kernel : p_fld (p_own 114) 17 = some (5, 2)) (rfl : p_ob 24 = some (.inr (5, [some 25, some 26, none, none, none, some 27, some 28, some 29, some 30, some 31, some 32, some 33, some 34, some 35, some 36, some 37, some 38, some 39, none, none, some 40]))) rfl,
  fun _ _ _ _ _ _ => p_r (by decide +kernel : p_at 114 11 = some (.iconst 1)) rfl,
  fun _ _ _ _ _ _ _ => p_r (by decide +kernel : p_at 114 12 = some (.isub)) rfl,
  fun _ _ _ _ _ _ => p_rcs (nl := 3) (by decide +kernel : p_at 114 13 = some (.invokestatic 72)) (by decide +kernel : p_inv (p_own 114) 72 = some (1, 97, 3)) (by decide +kernel) rfl rfl (Nat.le_of_ble_eq_true rfl) (Nat.le_of_ble_eq_true rfl) (Nat.le_of_ble_eq_true rfl) rfl,
  fun _ _ _ _ => p_rb1 (c := fun x => decide (¬ x = 0)) (off := 10) (by decide +kernel : p_at 114 16 = some (.ifCond .ne 10)) (by decide +kernel) rfl rfl rfl,
  fun _ _ _ => p_r (by decide +kernel : p_at 114 19 = some (.aload_n 0)) rfl,
  fun _ _ _ => p_r (by decide +kernel : p_at 114 20 = some (.iconst 1)) rfl,
  fun _ _ _ _ => p_rcv (nl := 2) (by decide +kernel : p_at 114 21 = some (.invokevirtual 76)) (by decide +kernel : p_inv (p_own 114) 76 = some (1, 96, 2)) (by decide +kernel) (rfl : p_ob 24 = some (.inr (5, [some 25, some 26, none, none, none, some 27, some 28, some 29, some 30, some 31, some 32, some 33, some 34, some 35, some 36, some 37, some 38, some 39, none, none, some 40]))) rfl rfl (Nat.le_of_ble_eq_true rfl) (Nat.le_of_ble_eq_true rfl) (Nat.le_of_ble_eq_true rfl) rfl,
  fun _ _ _ _ => p_r (by decide +kernel : p_at 114 24 = some (.i2l)) rfl,
  fun _ _ _ _ => p_rlret (by decide +kernel : p_at 114 25 = some (.lreturn)) (by decide +kernel),
  fun _ _ _ => p_r (by decide +kernel : p_at 114 26 = some (.aload_n 0)) rfl,
  fun _ _ _ => p_rcv (nl := 2) (by decide +kernel : p_at 114 27 = some (.invokevirtual 132)) (by decide +kernel : p_inv (p_own 114) 132 = some (1, 113, 1)) (by decide +kernel) (rfl : p_ob 24 = some (.inr (5, [some 25, some 26, none, none, none, some 27, some 28, some 29, some 30, some 31, some 32, some 33, some 34, some 35, some 36, some 37, some 38, some 39, none, none, some 40]))) rfl rfl (Nat.le_of_ble_eq_true rfl) (Nat.le_of_ble_eq_true rfl) (Nat.le_of_ble_eq_true rfl) rfl,
  fun _ _ _ => p_r (by decide +kernel : p_at 114 30 = some (.aload_n 0)) rfl,
  fun _ _ _ => p_rgf (f := some 29) (by decide +kernel : p_at 114 31 = some (.getfield 27)) (by decide +kernel : p_fld (p_own 114) 27 = some (5, 7)) (rfl : p_ob 24 = some (.inr (5, [some 25, some 26, none, none, none, some 27, some 28, some 29, some 30, some 31, some 32, some 33, some 34, some 35, some 36, some 37, some 38, some 39, none, none, some 40]))) rfl,
  fun _ _ _ => p_r (by decide +kernel : p_at 114 34 = some (.bipush 32)) rfl,
  fun _ _ _ _ => p_r (by decide +kernel : p_at 114 36 = some (.iload_n 1)) rfl,
  fun _ _ _ _ _ => p_r (by decide +kernel : p_at 114 37 = some (.iadd)) rfl,
  fun _ _ _ _ hp => p_rlald (by decide +kernel : p_at 114 38 = some (.laload)) (rfl : p_ob 29 = some (.inl (2, 512))) hp,
  fun _ _ _ _ => p_rlret (by decide +kernel : p_at 114 39 = some (.lreturn)) (by decide +kernel)⟩
-- 115: length
theorem M115 :
  (∀ (scr : pX) (w : pW), p_ev scr 115 0 [.ref 24] [] w = p_ev scr 115 1 [.ref 24] [.ref 24] w) ∧
  (∀ (scr : pX) (w : pW), p_ev scr 115 1 [.ref 24] [.ref 24] w = p_ev scr 115 2 [.ref 24] [.int (nI 0), .ref 24] w) ∧
  (∀ (scr : pX) (w : pW) (s0 : Int32), p_ev scr 115 2 [.ref 24] [.int s0, .ref 24] w = p_ev scr 115 5 [.ref 24] [] (p_u w.1 24 4 s0, w.2)) ∧
  (∀ (scr : pX) (w : pW), p_ev scr 115 5 [.ref 24] [] w = p_ev scr 115 6 [.ref 24] [.ref 24] w) ∧
  (∀ (scr : pX) (w : pW), p_ev scr 115 6 [.ref 24] [.ref 24] w = p_ev scr 115 9 [.ref 24] [.int (w.1 24 2)] w) ∧
  (∀ (scr : pX) (w : pW) (s0 : Int32), p_ev scr 115 9 [.ref 24] [.int s0] w = some (.inl (some (.int s0)), w, 0)) :=
  ⟨fun _ _ => p_r (by decide +kernel : p_at 115 0 = some (.aload_n 0)) rfl,
  fun _ _ => p_r (by decide +kernel : p_at 115 1 = some (.iconst 0)) rfl,
  fun _ _ _ => p_rpf (by decide +kernel : p_at 115 2 = some (.putfield 63)) (by decide +kernel : p_fld (p_own 115) 63 = some (5, 4)) (rfl : p_ob 24 = some (.inr (5, [some 25, some 26, none, none, none, some 27, some 28, some 29, some 30, some 31, some 32, some 33, some 34, some 35, some 36, some 37, some 38, some 39, none, none, some 40]))) rfl,
  fun _ _ => p_r (by decide +kernel : p_at 115 5 = some (.aload_n 0)) rfl,
  fun _ _ => p_rgf (f := none) (by decide +kernel : p_at 115 6 = some (.getfield 17)) (by decide +kernel : p_fld (p_own 115) 17 = some (5, 2)) (rfl : p_ob 24 = some (.inr (5, [some 25, some 26, none, none, none, some 27, some 28, some 29, some 30, some 31, some 32, some 33, some 34, some 35, some 36, some 37, some 38, some 39, none, none, some 40]))) rfl,
  fun _ _ _ => p_riret (by decide +kernel : p_at 115 9 = some (.ireturn)) (by decide +kernel)⟩
-- 116: setWavelet
theorem M116 :
  (∀ (scr : pX) (w : pW) (x1 : Int32), p_ev scr 116 0 [.ref 24, .int x1, p_U] [] w = p_ev scr 116 1 [.ref 24, .int x1, p_U] [.ref 24] w) ∧
  (∀ (scr : pX) (w : pW) (x1 : Int32), p_ev scr 116 1 [.ref 24, .int x1, p_U] [.ref 24] w = p_ev scr 116 2 [.ref 24, .int x1, p_U] [.int (nI 0), .ref 24] w) ∧
  (∀ (scr : pX) (w : pW) (x1 : Int32) (s0 : Int32), p_ev scr 116 2 [.ref 24, .int x1, p_U] [.int s0, .ref 24] w = p_ev scr 116 5 [.ref 24, .int x1, p_U] [] (p_u w.1 24 4 s0, w.2)) ∧
  (∀ (scr : pX) (w : pW) (x1 : Int32), p_ev scr 116 5 [.ref 24, .int x1, p_U] [] w = p_ev scr 116 6 [.ref 24, .int x1, p_U] [.int x1] w) ∧
  (∀ (scr : pX) (w : pW) (x1 : Int32) (s0 : Int32), p_ev scr 116 6 [.ref 24, .int x1, p_U] [.int s0] w = p_ev scr 116 7 [.ref 24, .int x1, p_U] [.int (nI 0), .int s0] w) ∧
  (∀ (scr : pX) (w : pW) (x1 : Int32) (s0 : Int32) (s1 : Int32), p_ev scr 116 7 [.ref 24, .int x1, p_U] [.int s0, .int s1] w = p_ev scr 116 8 [.ref 24, .int x1, p_U] [.int (nI 2), .int s0, .int s1] w) ∧
  (∀ (scr : pX) (w : pW) (x1 : Int32) (s0 : Int32) (s1 : Int32) (s2 : Int32), p_ev scr 116 8 [.ref 24, .int x1, p_U] [.int s0, .int s1, .int s2] w = p_bnd scr 116 8 11 [.ref 24, .int x1, p_U] [] (p_ev none 97 0 [.int s2, .int s1, .int s0] [] w)) ∧
  (∀ (scr : pX) (w : pW) (x1 : Int32) (s0 : Int32), p_ev scr 116 11 [.ref 24, .int x1, p_U] [.int s0] w = if ¬ s0 = nI 0 then p_ev scr 116 20 [.ref 24, .int x1, p_U] [] w else p_ev scr 116 14 [.ref 24, .int x1, p_U] [] w) ∧
  (∀ (scr : pX) (w : pW) (x1 : Int32), p_ev scr 116 14 [.ref 24, .int x1, p_U] [] w = p_ev scr 116 15 [.ref 24, .int x1, p_U] [.ref 24] w) ∧
  (∀ (scr : pX) (w : pW) (x1 : Int32), p_ev scr 116 15 [.ref 24, .int x1, p_U] [.ref 24] w = p_ev scr 116 16 [.ref 24, .int x1, p_U] [.int (nI 1), .ref 24] w) ∧
  (∀ (scr : pX) (w : pW) (x1 : Int32) (s0 : Int32), p_ev scr 116 16 [.ref 24, .int x1, p_U] [.int s0, .ref 24] w = p_bnd scr 116 16 19 [.ref 24, .int x1, p_U] [] (p_ev none 96 0 [.ref 24, .int s0] [] w)) ∧
  (∀ (scr : pX) (w : pW) (x1 : Int32) (s0 : Int32), p_ev scr 116 19 [.ref 24, .int x1, p_U] [.int s0] w = some (.inl (some (.int s0)), w, 0)) ∧
  (∀ (scr : pX) (w : pW) (x1 : Int32), p_ev scr 116 20 [.ref 24, .int x1, p_U] [] w = p_ev scr 116 21 [.ref 24, .int x1, p_U] [.ref 24] w) ∧
  (∀ (scr : pX) (w : pW) (x1 : Int32), p_ev scr 116 21 [.ref 24, .int x1, p_U] [.ref 24] w = p_ev scr 116 24 [.ref 24, .int x1, p_U] [.ref 25] w) ∧
  (∀ (scr : pX) (w : pW) (x1 : Int32), p_ev scr 116 24 [.ref 24, .int x1, p_U] [.ref 25] w = p_ev scr 116 25 [.ref 24, .int x1, p_U] [.int (nI 1), .ref 25] w) ∧
  (∀ (scr : pX) (w : pW) (x1 : Int32) (s0 : Int32), p_out s0 16 = false → p_ev scr 116 25 [.ref 24, .int x1, p_U] [.int s0, .ref 25] w = p_ev scr 116 26 [.ref 24, .int x1, p_U] [.int (w.2.2 25 s0.toNatClampNeg)] w) ∧
  (∀ (scr : pX) (w : pW) (x1 : Int32) (s0 : Int32), p_ev scr 116 26 [.ref 24, .int x1, p_U] [.int s0] w = p_ev scr 116 27 [.ref 24, .int x1, p_U] [.int (nI 1), .int s0] w) ∧
  (∀ (scr : pX) (w : pW) (x1 : Int32) (s0 : Int32) (s1 : Int32), p_ev scr 116 27 [.ref 24, .int x1, p_U] [.int s0, .int s1] w = if s1 = s0 then p_ev scr 116 36 [.ref 24, .int x1, p_U] [] w else p_ev scr 116 30 [.ref 24, .int x1, p_U] [] w) ∧
  (∀ (scr : pX) (w : pW) (x1 : Int32), p_ev scr 116 30 [.ref 24, .int x1, p_U] [] w = p_ev scr 116 31 [.ref 24, .int x1, p_U] [.ref 24] w) ∧
  (∀ (scr : pX) (w : pW) (x1 : Int32), p_ev scr 116 31 [.ref 24, .int x1, p_U] [.ref 24] w = p_ev scr 116 32 [.ref 24, .int x1, p_U] [.int (nI 2), .ref 24] w) ∧
  (∀ (scr : pX) (w : pW) (x1 : Int32) (s0 : Int32), p_ev scr 116 32 [.ref 24, .int x1, p_U] [.int s0, .ref 24] w = p_bnd scr 116 32 35 [.ref 24, .int x1, p_U] [] (p_ev none 96 0 [.ref 24, .int s0] [] w)) ∧
  (∀ (scr : pX) (w : pW) (x1 : Int32) (s0 : Int32), p_ev scr 116 35 [.ref 24, .int x1, p_U] [.int s0] w = some (.inl (some (.int s0)), w, 0)) ∧
  (∀ (scr : pX) (w : pW) (x1 : Int32), p_ev scr 116 36 [.ref 24, .int x1, p_U] [] w = p_ev scr 116 37 [.ref 24, .int x1, p_U] [.ref 24] w) ∧
  (∀ (scr : pX) (w : pW) (x1 : Int32), p_ev scr 116 37 [.ref 24, .int x1, p_U] [.ref 24] w = p_ev scr 116 40 [.ref 24, .int x1, p_U] [.int (w.1 24 3)] w) ∧
  (∀ (scr : pX) (w : pW) (x1 : Int32) (s0 : Int32), p_ev scr 116 40 [.ref 24, .int x1, p_U] [.int s0] w = p_ev scr 116 41 [.ref 24, .int x1, .int s0] [] w) ∧
  (∀ (scr : pX) (w : pW) (x1 : Int32) (x2 : Int32), p_ev scr 116 41 [.ref 24, .int x1, .int x2] [] w = p_ev scr 116 42 [.ref 24, .int x1, .int x2] [.ref 24] w) ∧
  (∀ (scr : pX) (w : pW) (x1 : Int32) (x2 : Int32), p_ev scr 116 42 [.ref 24, .int x1, .int x2] [.ref 24] w = p_ev scr 116 43 [.ref 24, .int x1, .int x2] [.int x1, .ref 24] w) ∧
  (∀ (scr : pX) (w : pW) (x1 : Int32) (x2 : Int32) (s0 : Int32), p_ev scr 116 43 [.ref 24, .int x1, .int x2] [.int s0, .ref 24] w = p_ev scr 116 46 [.ref 24, .int x1, .int x2] [] (p_u w.1 24 3 s0, w.2)) ∧
  (∀ (scr : pX) (w : pW) (x1 : Int32) (x2 : Int32), p_ev scr 116 46 [.ref 24, .int x1, .int x2] [] w = p_ev scr 116 47 [.ref 24, .int x1, .int x2] [.int x2] w) ∧
  (∀ (scr : pX) (w : pW) (x1 : Int32) (x2 : Int32) (s0 : Int32), p_ev scr 116 47 [.ref 24, .int x1, .int x2] [.int s0] w = some (.inl (some (.int s0)), w, 0)) :=
  ⟨fun _ _ _ => p_r (by decide +kernel : p_at 116 0 = some (.aload_n 0)) rfl,
  fun _ _ _ => p_r (by decide +kernel : p_at 116 1 = some (.iconst 0)) rfl,
  fun _ _ _ _ => p_rpf (by decide +kernel : p_at 116 2 = some (.putfield 63)) (by decide +kernel : p_fld (p_own 116) 63 = some (5, 4)) (rfl : p_ob 24 = some (.inr (5, [some 25, some 26, none, none, none, some 27, some 28, some 29, some 30, some 31, some 32, some 33, some 34, some 35, some 36, some 37, some 38, some 39, none, none, some 40]))) rfl,
  fun _ _ _ => p_r (by decide +kernel : p_at 116 5 = some (.iload_n 1)) rfl,
  fun _ _ _ _ => p_r (by decide +kernel : p_at 116 6 = some (.iconst 0)) rfl,
  fun _ _ _ _ _ => p_r (by decide +kernel : p_at 116 7 = some (.iconst 2)) rfl,
  fun _ _ _ _ _ _ => p_rcs (nl := 3) (by decide +kernel : p_at 116 8 = some (.invokestatic 72)) (by decide +kernel : p_inv (p_own 116) 72 = some (1, 97, 3)) (by decide +kernel) rfl rfl (Nat.le_of_ble_eq_true rfl) (Nat.le_of_ble_eq_true rfl) (Nat.le_of_ble_eq_true rfl) rfl,
  fun _ _ _ _ => p_rb1 (c := fun x => decide (¬ x = 0)) (off := 9) (by decide +kernel : p_at 116 11 = some (.ifCond .ne 9)) (by decide +kernel) rfl rfl rfl,
  fun _ _ _ => p_r (by decide +kernel : p_at 116 14 = some (.aload_n 0)) rfl,
  fun _ _ _ => p_r (by decide +kernel : p_at 116 15 = some (.iconst 1)) rfl,
  fun _ _ _ _ => p_rcv (nl := 2) (by decide +kernel : p_at 116 16 = some (.invokevirtual 76)) (by decide +kernel : p_inv (p_own 116) 76 = some (1, 96, 2)) (by decide +kernel) (rfl : p_ob 24 = some (.inr (5, [some 25, some 26, none, none, none, some 27, some 28, some 29, some 30, some 31, some 32, some 33, some 34, some 35, some 36, some 37, some 38, some 39, none, none, some 40]))) rfl rfl (Nat.le_of_ble_eq_true rfl) (Nat.le_of_ble_eq_true rfl) (Nat.le_of_ble_eq_true rfl) rfl,
  fun _ _ _ _ => p_riret (by decide +kernel : p_at 116 19 = some (.ireturn)) (by decide +kernel),
  fun _ _ _ => p_r (by decide +kernel : p_at 116 20 = some (.aload_n 0)) rfl,
  fun _ _ _ => p_rgf (f := some 25) (by decide +kernel : p_at 116 21 = some (.getfield 7)) (by decide +kernel : p_fld (p_own 116) 7 = some (5, 0)) (rfl : p_ob 24 = some (.inr (5, [some 25, some 26, none, none, none, some 27, some 28, some 29, some 30, some 31, some 32, some 33, some 34, some 35, some 36, some 37, some 38, some 39, none, none, some 40]))) rfl,
  fun _ _ _ => p_r (by decide +kernel : p_at 116 24 = some (.iconst 1)) rfl,
  fun _ _ _ _ hp => p_riald (by decide +kernel : p_at 116 25 = some (.iaload)) (rfl : p_ob 25 = some (.inl (1, 16))) hp,
  fun _ _ _ _ => p_r (by decide +kernel : p_at 116 26 = some (.iconst 1)) rfl,
  fun _ _ _ _ _ => p_rb2 (c := fun x y => decide (x = y)) (off := 9) (by decide +kernel : p_at 116 27 = some (.if_icmp .eq 9)) (by decide +kernel) rfl rfl rfl,
  fun _ _ _ => p_r (by decide +kernel : p_at 116 30 = some (.aload_n 0)) rfl,
  fun _ _ _ => p_r (by decide +kernel : p_at 116 31 = some (.iconst 2)) rfl,
  fun _ _ _ _ => p_rcv (nl := 2) (by decide +kernel : p_at 116 32 = some (.invokevirtual 76)) (by decide +kernel : p_inv (p_own 116) 76 = some (1, 96, 2)) (by decide +kernel) (rfl : p_ob 24 = some (.inr (5, [some 25, some 26, none, none, none, some 27, some 28, some 29, some 30, some 31, some 32, some 33, some 34, some 35, some 36, some 37, some 38, some 39, none, none, some 40]))) rfl rfl (Nat.le_of_ble_eq_true rfl) (Nat.le_of_ble_eq_true rfl) (Nat.le_of_ble_eq_true rfl) rfl,
  fun _ _ _ _ => p_riret (by decide +kernel : p_at 116 35 = some (.ireturn)) (by decide +kernel),
  fun _ _ _ => p_r (by decide +kernel : p_at 116 36 = some (.aload_n 0)) rfl,
  fun _ _ _ => p_rgf (f := none) (by decide +kernel : p_at 116 37 = some (.getfield 80)) (by decide +kernel : p_fld (p_own 116) 80 = some (5, 3)) (rfl : p_ob 24 = some (.inr (5, [some 25, some 26, none, none, none, some 27, some 28, some 29, some 30, some 31, some 32, some 33, some 34, some 35, some 36, some 37, some 38, some 39, none, none, some 40]))) rfl,
  fun _ _ _ _ => p_r (by decide +kernel : p_at 116 40 = some (.istore_n 2)) rfl,
  fun _ _ _ _ => p_r (by decide +kernel : p_at 116 41 = some (.aload_n 0)) rfl,
  fun _ _ _ _ => p_r (by decide +kernel : p_at 116 42 = some (.iload_n 1)) rfl,
  fun _ _ _ _ _ => p_rpf (by decide +kernel : p_at 116 43 = some (.putfield 80)) (by decide +kernel : p_fld (p_own 116) 80 = some (5, 3)) (rfl : p_ob 24 = some (.inr (5, [some 25, some 26, none, none, none, some 27, some 28, some 29, some 30, some 31, some 32, some 33, some 34, some 35, some 36, some 37, some 38, some 39, none, none, some 40]))) rfl,
  fun _ _ _ _ => p_r (by decide +kernel : p_at 116 46 = some (.iload_n 2)) rfl,
  fun _ _ _ _ _ => p_riret (by decide +kernel : p_at 116 47 = some (.ireturn)) (by decide +kernel)⟩
-- 117: split
theorem M117 :
  (∀ (scr : pX) (w : pW) (x1 : Int32), p_ev scr 117 0 [.ref 24, .int x1] [] w = p_ev scr 117 1 [.ref 24, .int x1] [.ref 24] w) ∧
  (∀ (scr : pX) (w : pW) (x1 : Int32), p_ev scr 117 1 [.ref 24, .int x1] [.ref 24] w = p_ev scr 117 2 [.ref 24, .int x1] [.int (nI 0), .ref 24] w) ∧
  (∀ (scr : pX) (w : pW) (x1 : Int32) (s0 : Int32), p_ev scr 117 2 [.ref 24, .int x1] [.int s0, .ref 24] w = p_ev scr 117 5 [.ref 24, .int x1] [] (p_u w.1 24 4 s0, w.2)) ∧
  (∀ (scr : pX) (w : pW) (x1 : Int32), p_ev scr 117 5 [.ref 24, .int x1] [] w = p_ev scr 117 6 [.ref 24, .int x1] [.ref 24] w) ∧
  (∀ (scr : pX) (w : pW) (x1 : Int32), p_ev scr 117 6 [.ref 24, .int x1] [.ref 24] w = p_ev scr 117 7 [.ref 24, .int x1] [.int x1, .ref 24] w) ∧
  (∀ (scr : pX) (w : pW) (x1 : Int32) (s0 : Int32), p_ev scr 117 7 [.ref 24, .int x1] [.int s0, .ref 24] w = p_bnd scr 117 7 10 [.ref 24, .int x1] [] (p_ev none 102 0 [.ref 24, .int s0] [] w)) ∧
  (∀ (scr : pX) (w : pW) (x1 : Int32) (s0 : Int32), p_ev scr 117 10 [.ref 24, .int x1] [.int s0] w = if ¬ s0 = nI 0 then p_ev scr 117 19 [.ref 24, .int x1] [] w else p_ev scr 117 13 [.ref 24, .int x1] [] w) ∧
  (∀ (scr : pX) (w : pW) (x1 : Int32), p_ev scr 117 13 [.ref 24, .int x1] [] w = p_ev scr 117 14 [.ref 24, .int x1] [.ref 24] w) ∧
  (∀ (scr : pX) (w : pW) (x1 : Int32), p_ev scr 117 14 [.ref 24, .int x1] [.ref 24] w = p_ev scr 117 15 [.ref 24, .int x1] [.int (nI 1), .ref 24] w) ∧
  (∀ (scr : pX) (w : pW) (x1 : Int32) (s0 : Int32), p_ev scr 117 15 [.ref 24, .int x1] [.int s0, .ref 24] w = p_bnd scr 117 15 18 [.ref 24, .int x1] [] (p_ev none 96 0 [.ref 24, .int s0] [] w)) ∧
  (∀ (scr : pX) (w : pW) (x1 : Int32) (s0 : Int32), p_ev scr 117 18 [.ref 24, .int x1] [.int s0] w = some (.inl (some (.int s0)), w, 0)) ∧
  (∀ (scr : pX) (w : pW) (x1 : Int32), p_ev scr 117 19 [.ref 24, .int x1] [] w = p_ev scr 117 20 [.ref 24, .int x1] [.ref 24] w) ∧
  (∀ (scr : pX) (w : pW) (x1 : Int32), p_ev scr 117 20 [.ref 24, .int x1] [.ref 24] w = p_ev scr 117 23 [.ref 24, .int x1] [.ref 25] w) ∧
  (∀ (scr : pX) (w : pW) (x1 : Int32), p_ev scr 117 23 [.ref 24, .int x1] [.ref 25] w = p_ev scr 117 24 [.ref 24, .int x1] [.int x1, .ref 25] w) ∧
  (∀ (scr : pX) (w : pW) (x1 : Int32) (s0 : Int32), p_out s0 16 = false → p_ev scr 117 24 [.ref 24, .int x1] [.int s0, .ref 25] w = p_ev scr 117 25 [.ref 24, .int x1] [.int (w.2.2 25 s0.toNatClampNeg)] w) ∧
  (∀ (scr : pX) (w : pW) (x1 : Int32) (s0 : Int32), p_ev scr 117 25 [.ref 24, .int x1] [.int s0] w = p_ev scr 117 26 [.ref 24, .int x1] [.int (nI 1), .int s0] w) ∧
  (∀ (scr : pX) (w : pW) (x1 : Int32) (s0 : Int32) (s1 : Int32), p_ev scr 117 26 [.ref 24, .int x1] [.int s0, .int s1] w = if ¬ s1 = s0 then p_ev scr 117 44 [.ref 24, .int x1] [] w else p_ev scr 117 29 [.ref 24, .int x1] [] w) ∧
  (∀ (scr : pX) (w : pW) (x1 : Int32), p_ev scr 117 29 [.ref 24, .int x1] [] w = p_ev scr 117 30 [.ref 24, .int x1] [.int x1] w) ∧
  (∀ (scr : pX) (w : pW) (x1 : Int32) (s0 : Int32), p_ev scr 117 30 [.ref 24, .int x1] [.int s0] w = p_ev scr 117 32 [.ref 24, .int x1] [.int (nI 8), .int s0] w) ∧
  (∀ (scr : pX) (w : pW) (x1 : Int32) (s0 : Int32) (s1 : Int32), p_ev scr 117 32 [.ref 24, .int x1] [.int s0, .int s1] w = if s0 ≤ s1 then p_ev scr 117 44 [.ref 24, .int x1] [] w else p_ev scr 117 35 [.ref 24, .int x1] [] w) ∧
  (∀ (scr : pX) (w : pW) (x1 : Int32), p_ev scr 117 35 [.ref 24, .int x1] [] w = p_ev scr 117 36 [.ref 24, .int x1] [.ref 24] w) ∧
  (∀ (scr : pX) (w : pW) (x1 : Int32), p_ev scr 117 36 [.ref 24, .int x1] [.ref 24] w = p_ev scr 117 37 [.ref 24, .int x1] [.int x1, .ref 24] w) ∧
  (∀ (scr : pX) (w : pW) (x1 : Int32) (s0 : Int32), p_ev scr 117 37 [.ref 24, .int x1] [.int s0, .ref 24] w = p_bnd scr 117 37 40 [.ref 24, .int x1] [] (p_ev none 101 0 [.ref 24, .int s0, p_U, p_U] [] w)) ∧
  (∀ (scr : pX) (w : pW) (x1 : Int32) (s0 : Int32), p_ev scr 117 40 [.ref 24, .int x1] [.int s0] w = p_ev scr 117 41 [.ref 24, .int x1] [.int (nI 2), .int s0] w) ∧
  (∀ (scr : pX) (w : pW) (x1 : Int32) (s0 : Int32) (s1 : Int32), p_ev scr 117 41 [.ref 24, .int x1] [.int s0, .int s1] w = if s0 ≤ s1 then p_ev scr 117 50 [.ref 24, .int x1] [] w else p_ev scr 117 44 [.ref 24, .int x1] [] w) ∧
  (∀ (scr : pX) (w : pW) (x1 : Int32), p_ev scr 117 44 [.ref 24, .int x1] [] w = p_ev scr 117 45 [.ref 24, .int x1] [.ref 24] w) ∧
  (∀ (scr : pX) (w : pW) (x1 : Int32), p_ev scr 117 45 [.ref 24, .int x1] [.ref 24] w = p_ev scr 117 46 [.ref 24, .int x1] [.int (nI 2), .ref 24] w) ∧
  (∀ (scr : pX) (w : pW) (x1 : Int32) (s0 : Int32), p_ev scr 117 46 [.ref 24, .int x1] [.int s0, .ref 24] w = p_bnd scr 117 46 49 [.ref 24, .int x1] [] (p_ev none 96 0 [.ref 24, .int s0] [] w)) ∧
  (∀ (scr : pX) (w : pW) (x1 : Int32) (s0 : Int32), p_ev scr 117 49 [.ref 24, .int x1] [.int s0] w = some (.inl (some (.int s0)), w, 0)) ∧
  (∀ (scr : pX) (w : pW) (x1 : Int32), p_ev scr 117 50 [.ref 24, .int x1] [] w = p_ev scr 117 51 [.ref 24, .int x1] [.ref 24] w) ∧
  (∀ (scr : pX) (w : pW) (x1 : Int32), p_ev scr 117 51 [.ref 24, .int x1] [.ref 24] w = p_ev scr 117 52 [.ref 24, .int x1] [.ref 24, .ref 24] w) ∧
  (∀ (scr : pX) (w : pW) (x1 : Int32), p_ev scr 117 52 [.ref 24, .int x1] [.ref 24, .ref 24] w = p_ev scr 117 55 [.ref 24, .int x1] [.ref 26, .ref 24] w) ∧
  (∀ (scr : pX) (w : pW) (x1 : Int32), p_ev scr 117 55 [.ref 24, .int x1] [.ref 26, .ref 24] w = p_ev scr 117 56 [.ref 24, .int x1] [.int x1, .ref 26, .ref 24] w) ∧
  (∀ (scr : pX) (w : pW) (x1 : Int32) (s0 : Int32), p_ev scr 117 56 [.ref 24, .int x1] [.int s0, .ref 26, .ref 24] w = p_bnd scr 117 56 59 [.ref 24, .int x1] [] (p_ev none 110 0 [.ref 24, .ref 26, .int s0, p_U, p_U] [] w)) ∧
  (∀ (scr : pX) (w : pW) (x1 : Int32), p_ev scr 117 59 [.ref 24, .int x1] [] w = p_ev scr 117 60 [.ref 24, .int x1] [.ref 24] w) ∧
  (∀ (scr : pX) (w : pW) (x1 : Int32), p_ev scr 117 60 [.ref 24, .int x1] [.ref 24] w = p_ev scr 117 63 [.ref 24, .int x1] [.ref 25] w) ∧
  (∀ (scr : pX) (w : pW) (x1 : Int32), p_ev scr 117 63 [.ref 24, .int x1] [.ref 25] w = p_ev scr 117 64 [.ref 24, .int x1] [.int x1, .ref 25] w) ∧
  (∀ (scr : pX) (w : pW) (x1 : Int32) (s0 : Int32), p_ev scr 117 64 [.ref 24, .int x1] [.int s0, .ref 25] w = p_ev scr 117 65 [.ref 24, .int x1] [.int (nI 2), .int s0, .ref 25] w) ∧
  (∀ (scr : pX) (w : pW) (x1 : Int32) (s0 : Int32) (s1 : Int32), p_out s1 16 = false → p_ev scr 117 65 [.ref 24, .int x1] [.int s0, .int s1, .ref 25] w = p_ev scr 117 66 [.ref 24, .int x1] [] (w.1, w.2.1, p_u w.2.2 25 s1.toNatClampNeg s0)) ∧
  (∀ (scr : pX) (w : pW) (x1 : Int32), p_ev scr 117 66 [.ref 24, .int x1] [] w = p_ev scr 117 67 [.ref 24, .int x1] [.ref 24] w) ∧
  (∀ (scr : pX) (w : pW) (x1 : Int32), p_ev scr 117 67 [.ref 24, .int x1] [.ref 24] w = p_ev scr 117 70 [.ref 24, .int x1] [.ref 25] w) ∧
  (∀ (scr : pX) (w : pW) (x1 : Int32), p_ev scr 117 70 [.ref 24, .int x1] [.ref 25] w = p_ev scr 117 71 [.ref 24, .int x1] [.int (nI 2), .ref 25] w) ∧
  (∀ (scr : pX) (w : pW) (x1 : Int32) (s0 : Int32), p_ev scr 117 71 [.ref 24, .int x1] [.int s0, .ref 25] w = p_ev scr 117 72 [.ref 24, .int x1] [.int x1, .int s0, .ref 25] w) ∧
  (∀ (scr : pX) (w : pW) (x1 : Int32) (s0 : Int32) (s1 : Int32), p_ev scr 117 72 [.ref 24, .int x1] [.int s0, .int s1, .ref 25] w = p_ev scr 117 73 [.ref 24, .int x1] [.int (s1 * s0), .ref 25] w) ∧
  (∀ (scr : pX) (w : pW) (x1 : Int32) (s0 : Int32), p_ev scr 117 73 [.ref 24, .int x1] [.int s0, .ref 25] w = p_ev scr 117 74 [.ref 24, .int x1] [.int (nI 1), .int s0, .ref 25] w) ∧
  (∀ (scr : pX) (w : pW) (x1 : Int32) (s0 : Int32) (s1 : Int32), p_out s1 16 = false → p_ev scr 117 74 [.ref 24, .int x1] [.int s0, .int s1, .ref 25] w = p_ev scr 117 75 [.ref 24, .int x1] [] (w.1, w.2.1, p_u w.2.2 25 s1.toNatClampNeg s0)) ∧
  (∀ (scr : pX) (w : pW) (x1 : Int32), p_ev scr 117 75 [.ref 24, .int x1] [] w = p_ev scr 117 76 [.ref 24, .int x1] [.ref 24] w) ∧
  (∀ (scr : pX) (w : pW) (x1 : Int32), p_ev scr 117 76 [.ref 24, .int x1] [.ref 24] w = p_ev scr 117 79 [.ref 24, .int x1] [.ref 25] w) ∧
  (∀ (scr : pX) (w : pW) (x1 : Int32), p_ev scr 117 79 [.ref 24, .int x1] [.ref 25] w = p_ev scr 117 80 [.ref 24, .int x1] [.int (nI 2), .ref 25] w) ∧
  (∀ (scr : pX) (w : pW) (x1 : Int32) (s0 : Int32), p_ev scr 117 80 [.ref 24, .int x1] [.int s0, .ref 25] w = p_ev scr 117 81 [.ref 24, .int x1] [.int x1, .int s0, .ref 25] w) ∧
  (∀ (scr : pX) (w : pW) (x1 : Int32) (s0 : Int32) (s1 : Int32), p_ev scr 117 81 [.ref 24, .int x1] [.int s0, .int s1, .ref 25] w = p_ev scr 117 82 [.ref 24, .int x1] [.int (s1 * s0), .ref 25] w) ∧
  (∀ (scr : pX) (w : pW) (x1 : Int32) (s0 : Int32), p_ev scr 117 82 [.ref 24, .int x1] [.int s0, .ref 25] w = p_ev scr 117 83 [.ref 24, .int x1] [.int (nI 1), .int s0, .ref 25] w) ∧
  (∀ (scr : pX) (w : pW) (x1 : Int32) (s0 : Int32) (s1 : Int32), p_ev scr 117 83 [.ref 24, .int x1] [.int s0, .int s1, .ref 25] w = p_ev scr 117 84 [.ref 24, .int x1] [.int (s1 + s0), .ref 25] w) ∧
  (∀ (scr : pX) (w : pW) (x1 : Int32) (s0 : Int32), p_ev scr 117 84 [.ref 24, .int x1] [.int s0, .ref 25] w = p_ev scr 117 85 [.ref 24, .int x1] [.int (nI 1), .int s0, .ref 25] w) ∧
  (∀ (scr : pX) (w : pW) (x1 : Int32) (s0 : Int32) (s1 : Int32), p_out s1 16 = false → p_ev scr 117 85 [.ref 24, .int x1] [.int s0, .int s1, .ref 25] w = p_ev scr 117 86 [.ref 24, .int x1] [] (w.1, w.2.1, p_u w.2.2 25 s1.toNatClampNeg s0)) ∧
  (∀ (scr : pX) (w : pW) (x1 : Int32), p_ev scr 117 86 [.ref 24, .int x1] [] w = p_ev scr 117 87 [.ref 24, .int x1] [.ref 24] w) ∧
  (∀ (scr : pX) (w : pW) (x1 : Int32), p_ev scr 117 87 [.ref 24, .int x1] [.ref 24] w = p_ev scr 117 88 [.ref 24, .int x1] [.int x1, .ref 24] w) ∧
  (∀ (scr : pX) (w : pW) (x1 : Int32) (s0 : Int32), p_ev scr 117 88 [.ref 24, .int x1] [.int s0, .ref 24] w = p_bnd scr 117 88 91 [.ref 24, .int x1] [] (p_ev none 101 0 [.ref 24, .int s0, p_U, p_U] [] w)) ∧
  (∀ (scr : pX) (w : pW) (x1 : Int32) (s0 : Int32), p_ev scr 117 91 [.ref 24, .int x1] [.int s0] w = p_ev scr 117 92 [.ref 24, .int x1] [.int (nI 2), .int s0] w) ∧
  (∀ (scr : pX) (w : pW) (x1 : Int32) (s0 : Int32) (s1 : Int32), ¬ s0 = 0 → p_ev scr 117 92 [.ref 24, .int x1] [.int s0, .int s1] w = p_ev scr 117 93 [.ref 24, .int x1] [.int (s1 / s0)] w) ∧
  (∀ (scr : pX) (w : pW) (x1 : Int32) (s0 : Int32), p_ev scr 117 93 [.ref 24, .int x1] [.int s0] w = some (.inl (some (.int s0)), w, 0)) :=
  ⟨fun _ _ _ => p_r (by decide +kernel : p_at 117 0 = some (.aload_n 0)) rfl,
  fun _ _ _ => p_r (by decide +kernel : p_at 117 1 = some (.iconst 0)) rfl,
  fun _ _ _ _ => p_rpf (by decide +kernel : p_at 117 2 = some (.putfield 63)) (by decide +kernel : p_fld (p_own 117) 63 = some (5, 4)) (rfl : p_ob 24 = some (.inr (5, [some 25, some 26, none, none, none, some 27, some 28, some 29, some 30, some 31, some 32, some 33, some 34, some 35, some 36, some 37, some 38, some 39, none, none, some 40]))) rfl,
  fun _ _ _ => p_r (by decide +kernel : p_at 117 5 = some (.aload_n 0)) rfl,
  fun _ _ _ => p_r (by decide +kernel : p_at 117 6 = some (.iload_n 1)) rfl,
  fun _ _ _ _ => p_rcv (nl := 2) (by decide +kernel : p_at 117 7 = some (.invokevirtual 135)) (by decide +kernel : p_inv (p_own 117) 135 = some (1, 102, 2)) (by decide +kernel) (rfl : p_ob 24 = some (.inr (5, [some 25, some 26, none, none, none, some 27, some 28, some 29, some 30, some 31, some 32, some 33, some 34, some 35, some 36, some 37, some 38, some 39, none, none, some 40]))) rfl rfl (Nat.le_of_ble_eq_true rfl) (Nat.le_of_ble_eq_true rfl) (Nat.le_of_ble_eq_true rfl) rfl,
  fun _ _ _ _ => p_rb1 (c := fun x => decide (¬ x = 0)) (off := 9) (by decide +kernel : p_at 117 10 = some (.ifCond .ne 9)) (by decide +kernel) rfl rfl rfl,
  fun _ _ _ => p_r (by decide +kernel : p_at 117 13 = some (.aload_n 0)) rfl,
  fun _ _ _ => p_r (by decide +kernel : p_at 117 14 = some (.iconst 1)) rfl,
  fun _ _ _ _ => p_rcv (nl := 2) (by decide +kernel : p_at 117 15 = some (.invokevirtual 76)) (by decide +kernel : p_inv (p_own 117) 76 = some (1, 96, 2)) (by decide +kernel) (rfl : p_ob 24 = some (.inr (5, [some 25, some 26, none, none, none, some 27, some 28, some 29, some 30, some 31, some 32, some 33, some 34, some 35, some 36, some 37, some 38, some 39, none, none, some 40]))) rfl rfl (Nat.le_of_ble_eq_true rfl) (Nat.le_of_ble_eq_true rfl) (Nat.le_of_ble_eq_true rfl) rfl,
  fun _ _ _ _ => p_riret (by decide +kernel : p_at 117 18 = some (.ireturn)) (by decide +kernel),
  fun _ _ _ => p_r (by decide +kernel : p_at 117 19 = some (.aload_n 0)) rfl,
  fun _ _ _ => p_rgf (f := some 25) (by decide +kernel : p_at 117 20 = some (.getfield 7)) (by decide +kernel : p_fld (p_own 117) 7 = some (5, 0)) (rfl : p_ob 24 = some (.inr (5, [some 25, some 26, none, none, none, some 27, some 28, some 29, some 30, some 31, some 32, some 33, some 34, some 35, some 36, some 37, some 38, some 39, none, none, some 40]))) rfl,
  fun _ _ _ => p_r (by decide +kernel : p_at 117 23 = some (.iload_n 1)) rfl,
  fun _ _ _ _ hp => p_riald (by decide +kernel : p_at 117 24 = some (.iaload)) (rfl : p_ob 25 = some (.inl (1, 16))) hp,
  fun _ _ _ _ => p_r (by decide +kernel : p_at 117 25 = some (.iconst 1)) rfl,
  fun _ _ _ _ _ => p_rb2 (c := fun x y => decide (¬ x = y)) (off := 18) (by decide +kernel : p_at 117 26 = some (.if_icmp .ne 18)) (by decide +kernel) rfl rfl rfl,
  fun _ _ _ => p_r (by decide +kernel : p_at 117 29 = some (.iload_n 1)) rfl,
  fun _ _ _ _ => p_r (by decide +kernel : p_at 117 30 = some (.bipush 8)) rfl,
  fun _ _ _ _ _ => p_rb2 (c := fun x y => decide (y ≤ x)) (off := 12) (by decide +kernel : p_at 117 32 = some (.if_icmp .ge 12)) (by decide +kernel) rfl rfl rfl,
  fun _ _ _ => p_r (by decide +kernel : p_at 117 35 = some (.aload_n 0)) rfl,
  fun _ _ _ => p_r (by decide +kernel : p_at 117 36 = some (.iload_n 1)) rfl,
  fun _ _ _ _ => p_rcv (nl := 4) (by decide +kernel : p_at 117 37 = some (.invokevirtual 113)) (by decide +kernel : p_inv (p_own 117) 113 = some (1, 101, 2)) (by decide +kernel) (rfl : p_ob 24 = some (.inr (5, [some 25, some 26, none, none, none, some 27, some 28, some 29, some 30, some 31, some 32, some 33, some 34, some 35, some 36, some 37, some 38, some 39, none, none, some 40]))) rfl rfl (Nat.le_of_ble_eq_true rfl) (Nat.le_of_ble_eq_true rfl) (Nat.le_of_ble_eq_true rfl) rfl,
  fun _ _ _ _ => p_r (by decide +kernel : p_at 117 40 = some (.iconst 2)) rfl,
  fun _ _ _ _ _ => p_rb2 (c := fun x y => decide (y ≤ x)) (off := 9) (by decide +kernel : p_at 117 41 = some (.if_icmp .ge 9)) (by decide +kernel) rfl rfl rfl,
  fun _ _ _ => p_r (by decide +kernel : p_at 117 44 = some (.aload_n 0)) rfl,
  fun _ _ _ => p_r (by decide +kernel : p_at 117 45 = some (.iconst 2)) rfl,
  fun _ _ _ _ => p_rcv (nl := 2) (by decide +kernel : p_at 117 46 = some (.invokevirtual 76)) (by decide +kernel : p_inv (p_own 117) 76 = some (1, 96, 2)) (by decide +kernel) (rfl : p_ob 24 = some (.inr (5, [some 25, some 26, none, none, none, some 27, some 28, some 29, some 30, some 31, some 32, some 33, some 34, some 35, some 36, some 37, some 38, some 39, none, none, some 40]))) rfl rfl (Nat.le_of_ble_eq_true rfl) (Nat.le_of_ble_eq_true rfl) (Nat.le_of_ble_eq_true rfl) rfl,
  fun _ _ _ _ => p_riret (by decide +kernel : p_at 117 49 = some (.ireturn)) (by decide +kernel),
  fun _ _ _ => p_r (by decide +kernel : p_at 117 50 = some (.aload_n 0)) rfl,
  fun _ _ _ => p_r (by decide +kernel : p_at 117 51 = some (.aload_n 0)) rfl,
  fun _ _ _ => p_rgf (f := some 26) (by decide +kernel : p_at 117 52 = some (.getfield 13)) (by decide +kernel : p_fld (p_own 117) 13 = some (5, 1)) (rfl : p_ob 24 = some (.inr (5, [some 25, some 26, none, none, none, some 27, some 28, some 29, some 30, some 31, some 32, some 33, some 34, some 35, some 36, some 37, some 38, some 39, none, none, some 40]))) rfl,
  fun _ _ _ => p_r (by decide +kernel : p_at 117 55 = some (.iload_n 1)) rfl,
  fun _ _ _ _ => p_rcv (nl := 5) (by decide +kernel : p_at 117 56 = some (.invokevirtual 139)) (by decide +kernel : p_inv (p_own 117) 139 = some (1, 110, 3)) (by decide +kernel) (rfl : p_ob 24 = some (.inr (5, [some 25, some 26, none, none, none, some 27, some 28, some 29, some 30, some 31, some 32, some 33, some 34, some 35, some 36, some 37, some 38, some 39, none, none, some 40]))) rfl rfl (Nat.le_of_ble_eq_true rfl) (Nat.le_of_ble_eq_true rfl) (Nat.le_of_ble_eq_true rfl) rfl,
  fun _ _ _ => p_r (by decide +kernel : p_at 117 59 = some (.aload_n 0)) rfl,
  fun _ _ _ => p_rgf (f := some 25) (by decide +kernel : p_at 117 60 = some (.getfield 7)) (by decide +kernel : p_fld (p_own 117) 7 = some (5, 0)) (rfl : p_ob 24 = some (.inr (5, [some 25, some 26, none, none, none, some 27, some 28, some 29, some 30, some 31, some 32, some 33, some 34, some 35, some 36, some 37, some 38, some 39, none, none, some 40]))) rfl,
  fun _ _ _ => p_r (by decide +kernel : p_at 117 63 = some (.iload_n 1)) rfl,
  fun _ _ _ _ => p_r (by decide +kernel : p_at 117 64 = some (.iconst 2)) rfl,
  fun _ _ _ _ _ hp => p_riast (by decide +kernel : p_at 117 65 = some (.iastore)) (rfl : p_ob 25 = some (.inl (1, 16))) hp,
  fun _ _ _ => p_r (by decide +kernel : p_at 117 66 = some (.aload_n 0)) rfl,
  fun _ _ _ => p_rgf (f := some 25) (by decide +kernel : p_at 117 67 = some (.getfield 7)) (by decide +kernel : p_fld (p_own 117) 7 = some (5, 0)) (rfl : p_ob 24 = some (.inr (5, [some 25, some 26, none, none, none, some 27, some 28, some 29, some 30, some 31, some 32, some 33, some 34, some 35, some 36, some 37, some 38, some 39, none, none, some 40]))) rfl,
  fun _ _ _ => p_r (by decide +kernel : p_at 117 70 = some (.iconst 2)) rfl,
  fun _ _ _ _ => p_r (by decide +kernel : p_at 117 71 = some (.iload_n 1)) rfl,
  fun _ _ _ _ _ => p_r (by decide +kernel : p_at 117 72 = some (.imul)) rfl,
  fun _ _ _ _ => p_r (by decide +kernel : p_at 117 73 = some (.iconst 1)) rfl,
  fun _ _ _ _ _ hp => p_riast (by decide +kernel : p_at 117 74 = some (.iastore)) (rfl : p_ob 25 = some (.inl (1, 16))) hp,
  fun _ _ _ => p_r (by decide +kernel : p_at 117 75 = some (.aload_n 0)) rfl,
  fun _ _ _ => p_rgf (f := some 25) (by decide +kernel : p_at 117 76 = some (.getfield 7)) (by decide +kernel : p_fld (p_own 117) 7 = some (5, 0)) (rfl : p_ob 24 = some (.inr (5, [some 25, some 26, none, none, none, some 27, some 28, some 29, some 30, some 31, some 32, some 33, some 34, some 35, some 36, some 37, some 38, some 39, none, none, some 40]))) rfl,
  fun _ _ _ => p_r (by decide +kernel : p_at 117 79 = some (.iconst 2)) rfl,
  fun _ _ _ _ => p_r (by decide +kernel : p_at 117 80 = some (.iload_n 1)) rfl,
  fun _ _ _ _ _ => p_r (by decide +kernel : p_at 117 81 = some (.imul)) rfl,
  fun _ _ _ _ => p_r (by decide +kernel : p_at 117 82 = some (.iconst 1)) rfl,
  fun _ _ _ _ _ => p_r (by decide +kernel : p_at 117 83 = some (.iadd)) rfl,
  fun _ _ _ _ => p_r (by decide +kernel : p_at 117 84 = some (.iconst 1)) rfl,
  fun _ _ _ _ _ hp => p_riast (by decide +kernel : p_at 117 85 = some (.iastore)) (rfl : p_ob 25 = some (.inl (1, 16))) hp,
  fun _ _ _ => p_r (by decide +kernel : p_at 117 86 = some (.aload_n 0)) rfl,
  fun _ _ _ => p_r (by decide +kernel : p_at 117 87 = some (.iload_n 1)) rfl,
  fun _ _ _ _ => p_rcv (nl := 4) (by decide +kernel : p_at 117 88 = some (.invokevirtual 113)) (by decide +kernel : p_inv (p_own 117) 113 = some (1, 101, 2)) (by decide +kernel) (rfl : p_ob 24 = some (.inr (5, [some 25, some 26, none, none, none, some 27, some 28, some 29, some 30, some 31, some 32, some 33, some 34, some 35, some 36, some 37, some 38, some 39, none, none, some 40]))) rfl rfl (Nat.le_of_ble_eq_true rfl) (Nat.le_of_ble_eq_true rfl) (Nat.le_of_ble_eq_true rfl) rfl,
  fun _ _ _ _ => p_r (by decide +kernel : p_at 117 91 = some (.iconst 2)) rfl,
  fun _ _ _ _ _ hp => p_ridiv (by decide +kernel : p_at 117 92 = some (.idiv)) hp,
  fun _ _ _ _ => p_riret (by decide +kernel : p_at 117 93 = some (.ireturn)) (by decide +kernel)⟩
-- 118: isBelow
theorem M118 :
  (∀ (scr : pX) (w : pW) (x1 : Int32) (x2 : Int32), p_ev scr 118 0 [.ref 24, .int x1, .int x2, p_U] [] w = p_ev scr 118 1 [.ref 24, .int x1, .int x2, p_U] [.int x1] w) ∧
  (∀ (scr : pX) (w : pW) (x1 : Int32) (x2 : Int32) (s0 : Int32), p_ev scr 118 1 [.ref 24, .int x1, .int x2, p_U] [.int s0] w = p_ev scr 118 2 [.ref 24, .int x1, .int x2, .int s0] [] w) ∧
  (∀ (scr : pX) (w : pW) (x1 : Int32) (x2 : Int32) (x3 : Int32) (s0 : Int32), p_ev scr 118 3 [.ref 24, .int x1, .int x2, .int x3] [.int s0] w = p_ev scr 118 4 [.ref 24, .int x1, .int x2, .int x3] [.int x2, .int s0] w) ∧
  (∀ (scr : pX) (w : pW) (x1 : Int32) (x2 : Int32) (x3 : Int32) (s0 : Int32) (s1 : Int32), p_ev scr 118 4 [.ref 24, .int x1, .int x2, .int x3] [.int s0, .int s1] w = if s1 ≤ s0 then p_ev scr 118 14 [.ref 24, .int x1, .int x2, .int x3] [] w else p_ev scr 118 7 [.ref 24, .int x1, .int x2, .int x3] [] w) ∧
  (∀ (scr : pX) (w : pW) (x1 : Int32) (x2 : Int32) (x3 : Int32), p_ev scr 118 7 [.ref 24, .int x1, .int x2, .int x3] [] w = p_ev scr 118 8 [.ref 24, .int x1, .int x2, .int x3] [.int x3] w) ∧
  (∀ (scr : pX) (w : pW) (x1 : Int32) (x2 : Int32) (x3 : Int32) (s0 : Int32), p_ev scr 118 8 [.ref 24, .int x1, .int x2, .int x3] [.int s0] w = p_ev scr 118 9 [.ref 24, .int x1, .int x2, .int x3] [.int (nI 2), .int s0] w) ∧
  (∀ (scr : pX) (w : pW) (x1 : Int32) (x2 : Int32) (x3 : Int32) (s0 : Int32) (s1 : Int32), ¬ s0 = 0 → p_ev scr 118 9 [.ref 24, .int x1, .int x2, .int x3] [.int s0, .int s1] w = p_ev scr 118 10 [.ref 24, .int x1, .int x2, .int x3] [.int (s1 / s0)] w) ∧
  (∀ (scr : pX) (w : pW) (x1 : Int32) (x2 : Int32) (x3 : Int32) (s0 : Int32), p_ev scr 118 10 [.ref 24, .int x1, .int x2, .int x3] [.int s0] w = p_ev scr 118 11 [.ref 24, .int x1, .int x2, .int s0] [] w) ∧
  (∀ (scr : pX) (w : pW) (x1 : Int32) (x2 : Int32) (x3 : Int32), p_ev scr 118 11 [.ref 24, .int x1, .int x2, .int x3] [] w = p_ev scr 118 2 [.ref 24, .int x1, .int x2, .int x3] [] w) ∧
  (∀ (scr : pX) (w : pW) (x1 : Int32) (x2 : Int32) (x3 : Int32), p_ev scr 118 14 [.ref 24, .int x1, .int x2, .int x3] [] w = p_ev scr 118 15 [.ref 24, .int x1, .int x2, .int x3] [.int x3] w) ∧
  (∀ (scr : pX) (w : pW) (x1 : Int32) (x2 : Int32) (x3 : Int32) (s0 : Int32), p_ev scr 118 15 [.ref 24, .int x1, .int x2, .int x3] [.int s0] w = p_ev scr 118 16 [.ref 24, .int x1, .int x2, .int x3] [.int x2, .int s0] w) ∧
  (∀ (scr : pX) (w : pW) (x1 : Int32) (x2 : Int32) (x3 : Int32) (s0 : Int32) (s1 : Int32), p_ev scr 118 16 [.ref 24, .int x1, .int x2, .int x3] [.int s0, .int s1] w = if ¬ s1 = s0 then p_ev scr 118 23 [.ref 24, .int x1, .int x2, .int x3] [] w else p_ev scr 118 19 [.ref 24, .int x1, .int x2, .int x3] [] w) ∧
  (∀ (scr : pX) (w : pW) (x1 : Int32) (x2 : Int32) (x3 : Int32), p_ev scr 118 19 [.ref 24, .int x1, .int x2, .int x3] [] w = p_ev scr 118 20 [.ref 24, .int x1, .int x2, .int x3] [.int (nI 1)] w) ∧
  (∀ (scr : pX) (w : pW) (x1 : Int32) (x2 : Int32) (x3 : Int32) (s0 : Int32), p_ev scr 118 20 [.ref 24, .int x1, .int x2, .int x3] [.int s0] w = p_ev scr 118 24 [.ref 24, .int x1, .int x2, .int x3] [.int s0] w) ∧
  (∀ (scr : pX) (w : pW) (x1 : Int32) (x2 : Int32) (x3 : Int32), p_ev scr 118 23 [.ref 24, .int x1, .int x2, .int x3] [] w = p_ev scr 118 24 [.ref 24, .int x1, .int x2, .int x3] [.int (nI 0)] w) ∧
  (∀ (scr : pX) (w : pW) (x1 : Int32) (x2 : Int32) (x3 : Int32) (s0 : Int32), narrow .boolean (.int s0) = .int s0 → p_ev scr 118 24 [.ref 24, .int x1, .int x2, .int x3] [.int s0] w = some (.inl (some (.int s0)), w, 0)) :=
  ⟨fun _ _ _ _ => p_r (by decide +kernel : p_at 118 0 = some (.iload_n 1)) rfl,
  fun _ _ _ _ _ => p_r (by decide +kernel : p_at 118 1 = some (.istore_n 3)) rfl,
  fun _ _ _ _ _ _ => p_r (by decide +kernel : p_at 118 3 = some (.iload_n 2)) rfl,
  fun _ _ _ _ _ _ _ => p_rb2 (c := fun x y => decide (x ≤ y)) (off := 10) (by decide +kernel : p_at 118 4 = some (.if_icmp .le 10)) (by decide +kernel) rfl rfl rfl,
  fun _ _ _ _ _ => p_r (by decide +kernel : p_at 118 7 = some (.iload_n 3)) rfl,
  fun _ _ _ _ _ _ => p_r (by decide +kernel : p_at 118 8 = some (.iconst 2)) rfl,
  fun _ _ _ _ _ _ _ hp => p_ridiv (by decide +kernel : p_at 118 9 = some (.idiv)) hp,
  fun _ _ _ _ _ _ => p_r (by decide +kernel : p_at 118 10 = some (.istore_n 3)) rfl,
  fun _ _ _ _ _ => p_rgo (by decide +kernel : p_at 118 11 = some (.goto (-9))) (by decide +kernel),
  fun _ _ _ _ _ => p_r (by decide +kernel : p_at 118 14 = some (.iload_n 3)) rfl,
  fun _ _ _ _ _ _ => p_r (by decide +kernel : p_at 118 15 = some (.iload_n 2)) rfl,
  fun _ _ _ _ _ _ _ => p_rb2 (c := fun x y => decide (¬ x = y)) (off := 7) (by decide +kernel : p_at 118 16 = some (.if_icmp .ne 7)) (by decide +kernel) rfl rfl rfl,
  fun _ _ _ _ _ => p_r (by decide +kernel : p_at 118 19 = some (.iconst 1)) rfl,
  fun _ _ _ _ _ _ => p_rgo (by decide +kernel : p_at 118 20 = some (.goto 4)) (by decide +kernel),
  fun _ _ _ _ _ => p_r (by decide +kernel : p_at 118 23 = some (.iconst 0)) rfl,
  fun _ _ _ _ _ _ hp => p_rzret (by decide +kernel : p_at 118 24 = some (.ireturn)) (by decide +kernel) hp⟩
theorem H118_2 :
  (∀ (scr : pX) (w : pW) (x1 : Int32) (x2 : Int32) (x3 : Int32), p_ev scr 118 2 [.ref 24, .int x1, .int x2, .int x3] [] w = p_ev scr 118 3 [.ref 24, .int x1, .int x2, .int x3] [.int x3] w) :=
  fun _ _ _ _ _ => p_r (by decide +kernel : p_at 118 2 = some (.iload_n 3)) rfl
-- 119: joinNode
theorem M119 :
  (∀ (scr : pX) (w : pW) (x1 : Int32), p_ev scr 119 0 [.ref 24, .int x1, p_U, p_U] [] w = p_ev scr 119 1 [.ref 24, .int x1, p_U, p_U] [.int (nI 0)] w) ∧
  (∀ (scr : pX) (w : pW) (x1 : Int32) (s0 : Int32), p_ev scr 119 1 [.ref 24, .int x1, p_U, p_U] [.int s0] w = p_ev scr 119 2 [.ref 24, .int x1, .int s0, p_U] [] w) ∧
  (∀ (scr : pX) (w : pW) (x1 : Int32) (x2 : Int32), p_ev scr 119 2 [.ref 24, .int x1, .int x2, p_U] [] w = p_ev scr 119 4 [.ref 24, .int x1, .int x2, p_U] [.int (nI 7)] w) ∧
  (∀ (scr : pX) (w : pW) (x1 : Int32) (x2 : Int32) (s0 : Int32), p_ev scr 119 4 [.ref 24, .int x1, .int x2, p_U] [.int s0] w = p_ev scr 119 5 [.ref 24, .int x1, .int x2, .int s0] [] w) ∧
  (∀ (scr : pX) (w : pW) (x1 : Int32) (x2 : Int32) (x3 : Int32) (s0 : Int32), p_ev scr 119 6 [.ref 24, .int x1, .int x2, .int x3] [.int s0] w = p_ev scr 119 7 [.ref 24, .int x1, .int x2, .int x3] [.int x1, .int s0] w) ∧
  (∀ (scr : pX) (w : pW) (x1 : Int32) (x2 : Int32) (x3 : Int32) (s0 : Int32) (s1 : Int32), p_ev scr 119 7 [.ref 24, .int x1, .int x2, .int x3] [.int s0, .int s1] w = if s1 < s0 then p_ev scr 119 74 [.ref 24, .int x1, .int x2, .int x3] [] w else p_ev scr 119 10 [.ref 24, .int x1, .int x2, .int x3] [] w) ∧
  (∀ (scr : pX) (w : pW) (x1 : Int32) (x2 : Int32) (x3 : Int32), p_ev scr 119 10 [.ref 24, .int x1, .int x2, .int x3] [] w = p_ev scr 119 11 [.ref 24, .int x1, .int x2, .int x3] [.ref 24] w) ∧
  (∀ (scr : pX) (w : pW) (x1 : Int32) (x2 : Int32) (x3 : Int32), p_ev scr 119 11 [.ref 24, .int x1, .int x2, .int x3] [.ref 24] w = p_ev scr 119 14 [.ref 24, .int x1, .int x2, .int x3] [.ref 25] w) ∧
  (∀ (scr : pX) (w : pW) (x1 : Int32) (x2 : Int32) (x3 : Int32), p_ev scr 119 14 [.ref 24, .int x1, .int x2, .int x3] [.ref 25] w = p_ev scr 119 15 [.ref 24, .int x1, .int x2, .int x3] [.int x3, .ref 25] w) ∧
  (∀ (scr : pX) (w : pW) (x1 : Int32) (x2 : Int32) (x3 : Int32) (s0 : Int32), p_out s0 16 = false → p_ev scr 119 15 [.ref 24, .int x1, .int x2, .int x3] [.int s0, .ref 25] w = p_ev scr 119 16 [.ref 24, .int x1, .int x2, .int x3] [.int (w.2.2 25 s0.toNatClampNeg)] w) ∧
  (∀ (scr : pX) (w : pW) (x1 : Int32) (x2 : Int32) (x3 : Int32) (s0 : Int32), p_ev scr 119 16 [.ref 24, .int x1, .int x2, .int x3] [.int s0] w = p_ev scr 119 17 [.ref 24, .int x1, .int x2, .int x3] [.int (nI 2), .int s0] w) ∧
  (∀ (scr : pX) (w : pW) (x1 : Int32) (x2 : Int32) (x3 : Int32) (s0 : Int32) (s1 : Int32), p_ev scr 119 17 [.ref 24, .int x1, .int x2, .int x3] [.int s0, .int s1] w = if ¬ s1 = s0 then p_ev scr 119 68 [.ref 24, .int x1, .int x2, .int x3] [] w else p_ev scr 119 20 [.ref 24, .int x1, .int x2, .int x3] [] w) ∧
  (∀ (scr : pX) (w : pW) (x1 : Int32) (x2 : Int32) (x3 : Int32), p_ev scr 119 20 [.ref 24, .int x1, .int x2, .int x3] [] w = p_ev scr 119 21 [.ref 24, .int x1, .int x2, .int x3] [.ref 24] w) ∧
  (∀ (scr : pX) (w : pW) (x1 : Int32) (x2 : Int32) (x3 : Int32), p_ev scr 119 21 [.ref 24, .int x1, .int x2, .int x3] [.ref 24] w = p_ev scr 119 22 [.ref 24, .int x1, .int x2, .int x3] [.int x3, .ref 24] w) ∧
  (∀ (scr : pX) (w : pW) (x1 : Int32) (x2 : Int32) (x3 : Int32) (s0 : Int32), p_ev scr 119 22 [.ref 24, .int x1, .int x2, .int x3] [.int s0, .ref 24] w = p_ev scr 119 23 [.ref 24, .int x1, .int x2, .int x3] [.int x1, .int s0, .ref 24] w) ∧
  (∀ (scr : pX) (w : pW) (x1 : Int32) (x2 : Int32) (x3 : Int32) (s0 : Int32) (s1 : Int32), p_ev scr 119 23 [.ref 24, .int x1, .int x2, .int x3] [.int s0, .int s1, .ref 24] w = p_bnd scr 119 23 26 [.ref 24, .int x1, .int x2, .int x3] [] (p_ev none 118 0 [.ref 24, .int s1, .int s0, p_U] [] w)) ∧
  (∀ (scr : pX) (w : pW) (x1 : Int32) (x2 : Int32) (x3 : Int32) (s0 : Int32), p_ev scr 119 26 [.ref 24, .int x1, .int x2, .int x3] [.int s0] w = if s0 = nI 0 then p_ev scr 119 68 [.ref 24, .int x1, .int x2, .int x3] [] w else p_ev scr 119 29 [.ref 24, .int x1, .int x2, .int x3] [] w) ∧
  (∀ (scr : pX) (w : pW) (x1 : Int32) (x2 : Int32) (x3 : Int32), p_ev scr 119 29 [.ref 24, .int x1, .int x2, .int x3] [] w = p_ev scr 119 30 [.ref 24, .int x1, .int x2, .int x3] [.ref 24] w) ∧
  (∀ (scr : pX) (w : pW) (x1 : Int32) (x2 : Int32) (x3 : Int32), p_ev scr 119 30 [.ref 24, .int x1, .int x2, .int x3] [.ref 24] w = p_ev scr 119 31 [.ref 24, .int x1, .int x2, .int x3] [.ref 24, .ref 24] w) ∧
  (∀ (scr : pX) (w : pW) (x1 : Int32) (x2 : Int32) (x3 : Int32), p_ev scr 119 31 [.ref 24, .int x1, .int x2, .int x3] [.ref 24, .ref 24] w = p_ev scr 119 34 [.ref 24, .int x1, .int x2, .int x3] [.ref 26, .ref 24] w) ∧
  (∀ (scr : pX) (w : pW) (x1 : Int32) (x2 : Int32) (x3 : Int32), p_ev scr 119 34 [.ref 24, .int x1, .int x2, .int x3] [.ref 26, .ref 24] w = p_ev scr 119 35 [.ref 24, .int x1, .int x2, .int x3] [.int x3, .ref 26, .ref 24] w) ∧
  (∀ (scr : pX) (w : pW) (x1 : Int32) (x2 : Int32) (x3 : Int32) (s0 : Int32), p_ev scr 119 35 [.ref 24, .int x1, .int x2, .int x3] [.int s0, .ref 26, .ref 24] w = p_bnd scr 119 35 38 [.ref 24, .int x1, .int x2, .int x3] [] (p_ev none 111 0 [.ref 24, .ref 26, .int s0, p_U, p_U] [] w)) ∧
  (∀ (scr : pX) (w : pW) (x1 : Int32) (x2 : Int32) (x3 : Int32), p_ev scr 119 38 [.ref 24, .int x1, .int x2, .int x3] [] w = p_ev scr 119 39 [.ref 24, .int x1, .int x2, .int x3] [.ref 24] w) ∧
  (∀ (scr : pX) (w : pW) (x1 : Int32) (x2 : Int32) (x3 : Int32), p_ev scr 119 39 [.ref 24, .int x1, .int x2, .int x3] [.ref 24] w = p_ev scr 119 42 [.ref 24, .int x1, .int x2, .int x3] [.ref 25] w) ∧
  (∀ (scr : pX) (w : pW) (x1 : Int32) (x2 : Int32) (x3 : Int32), p_ev scr 119 42 [.ref 24, .int x1, .int x2, .int x3] [.ref 25] w = p_ev scr 119 43 [.ref 24, .int x1, .int x2, .int x3] [.int x3, .ref 25] w) ∧
  (∀ (scr : pX) (w : pW) (x1 : Int32) (x2 : Int32) (x3 : Int32) (s0 : Int32), p_ev scr 119 43 [.ref 24, .int x1, .int x2, .int x3] [.int s0, .ref 25] w = p_ev scr 119 44 [.ref 24, .int x1, .int x2, .int x3] [.int (nI 1), .int s0, .ref 25] w) ∧
  (∀ (scr : pX) (w : pW) (x1 : Int32) (x2 : Int32) (x3 : Int32) (s0 : Int32) (s1 : Int32), p_out s1 16 = false → p_ev scr 119 44 [.ref 24, .int x1, .int x2, .int x3] [.int s0, .int s1, .ref 25] w = p_ev scr 119 45 [.ref 24, .int x1, .int x2, .int x3] [] (w.1, w.2.1, p_u w.2.2 25 s1.toNatClampNeg s0)) ∧
  (∀ (scr : pX) (w : pW) (x1 : Int32) (x2 : Int32) (x3 : Int32), p_ev scr 119 45 [.ref 24, .int x1, .int x2, .int x3] [] w = p_ev scr 119 46 [.ref 24, .int x1, .int x2, .int x3] [.ref 24] w) ∧
  (∀ (scr : pX) (w : pW) (x1 : Int32) (x2 : Int32) (x3 : Int32), p_ev scr 119 46 [.ref 24, .int x1, .int x2, .int x3] [.ref 24] w = p_ev scr 119 49 [.ref 24, .int x1, .int x2, .int x3] [.ref 25] w) ∧
  (∀ (scr : pX) (w : pW) (x1 : Int32) (x2 : Int32) (x3 : Int32), p_ev scr 119 49 [.ref 24, .int x1, .int x2, .int x3] [.ref 25] w = p_ev scr 119 50 [.ref 24, .int x1, .int x2, .int x3] [.int (nI 2), .ref 25] w) ∧
  (∀ (scr : pX) (w : pW) (x1 : Int32) (x2 : Int32) (x3 : Int32) (s0 : Int32), p_ev scr 119 50 [.ref 24, .int x1, .int x2, .int x3] [.int s0, .ref 25] w = p_ev scr 119 51 [.ref 24, .int x1, .int x2, .int x3] [.int x3, .int s0, .ref 25] w) ∧
  (∀ (scr : pX) (w : pW) (x1 : Int32) (x2 : Int32) (x3 : Int32) (s0 : Int32) (s1 : Int32), p_ev scr 119 51 [.ref 24, .int x1, .int x2, .int x3] [.int s0, .int s1, .ref 25] w = p_ev scr 119 52 [.ref 24, .int x1, .int x2, .int x3] [.int (s1 * s0), .ref 25] w) ∧
  (∀ (scr : pX) (w : pW) (x1 : Int32) (x2 : Int32) (x3 : Int32) (s0 : Int32), p_ev scr 119 52 [.ref 24, .int x1, .int x2, .int x3] [.int s0, .ref 25] w = p_ev scr 119 53 [.ref 24, .int x1, .int x2, .int x3] [.int (nI 0), .int s0, .ref 25] w) ∧
  (∀ (scr : pX) (w : pW) (x1 : Int32) (x2 : Int32) (x3 : Int32) (s0 : Int32) (s1 : Int32), p_out s1 16 = false → p_ev scr 119 53 [.ref 24, .int x1, .int x2, .int x3] [.int s0, .int s1, .ref 25] w = p_ev scr 119 54 [.ref 24, .int x1, .int x2, .int x3] [] (w.1, w.2.1, p_u w.2.2 25 s1.toNatClampNeg s0)) ∧
  (∀ (scr : pX) (w : pW) (x1 : Int32) (x2 : Int32) (x3 : Int32), p_ev scr 119 54 [.ref 24, .int x1, .int x2, .int x3] [] w = p_ev scr 119 55 [.ref 24, .int x1, .int x2, .int x3] [.ref 24] w) ∧
  (∀ (scr : pX) (w : pW) (x1 : Int32) (x2 : Int32) (x3 : Int32), p_ev scr 119 55 [.ref 24, .int x1, .int x2, .int x3] [.ref 24] w = p_ev scr 119 58 [.ref 24, .int x1, .int x2, .int x3] [.ref 25] w) ∧
  (∀ (scr : pX) (w : pW) (x1 : Int32) (x2 : Int32) (x3 : Int32), p_ev scr 119 58 [.ref 24, .int x1, .int x2, .int x3] [.ref 25] w = p_ev scr 119 59 [.ref 24, .int x1, .int x2, .int x3] [.int (nI 2), .ref 25] w) ∧
  (∀ (scr : pX) (w : pW) (x1 : Int32) (x2 : Int32) (x3 : Int32) (s0 : Int32), p_ev scr 119 59 [.ref 24, .int x1, .int x2, .int x3] [.int s0, .ref 25] w = p_ev scr 119 60 [.ref 24, .int x1, .int x2, .int x3] [.int x3, .int s0, .ref 25] w) ∧
  (∀ (scr : pX) (w : pW) (x1 : Int32) (x2 : Int32) (x3 : Int32) (s0 : Int32) (s1 : Int32), p_ev scr 119 60 [.ref 24, .int x1, .int x2, .int x3] [.int s0, .int s1, .ref 25] w = p_ev scr 119 61 [.ref 24, .int x1, .int x2, .int x3] [.int (s1 * s0), .ref 25] w) ∧
  (∀ (scr : pX) (w : pW) (x1 : Int32) (x2 : Int32) (x3 : Int32) (s0 : Int32), p_ev scr 119 61 [.ref 24, .int x1, .int x2, .int x3] [.int s0, .ref 25] w = p_ev scr 119 62 [.ref 24, .int x1, .int x2, .int x3] [.int (nI 1), .int s0, .ref 25] w) ∧
  (∀ (scr : pX) (w : pW) (x1 : Int32) (x2 : Int32) (x3 : Int32) (s0 : Int32) (s1 : Int32), p_ev scr 119 62 [.ref 24, .int x1, .int x2, .int x3] [.int s0, .int s1, .ref 25] w = p_ev scr 119 63 [.ref 24, .int x1, .int x2, .int x3] [.int (s1 + s0), .ref 25] w) ∧
  (∀ (scr : pX) (w : pW) (x1 : Int32) (x2 : Int32) (x3 : Int32) (s0 : Int32), p_ev scr 119 63 [.ref 24, .int x1, .int x2, .int x3] [.int s0, .ref 25] w = p_ev scr 119 64 [.ref 24, .int x1, .int x2, .int x3] [.int (nI 0), .int s0, .ref 25] w) ∧
  (∀ (scr : pX) (w : pW) (x1 : Int32) (x2 : Int32) (x3 : Int32) (s0 : Int32) (s1 : Int32), p_out s1 16 = false → p_ev scr 119 64 [.ref 24, .int x1, .int x2, .int x3] [.int s0, .int s1, .ref 25] w = p_ev scr 119 65 [.ref 24, .int x1, .int x2, .int x3] [] (w.1, w.2.1, p_u w.2.2 25 s1.toNatClampNeg s0)) ∧
  (∀ (scr : pX) (w : pW) (x1 : Int32) (x2 : Int32) (x3 : Int32), p_ev scr 119 65 [.ref 24, .int x1, .int x2, .int x3] [] w = p_ev scr 119 68 [.ref 24, .int x1, .int (x2 + (nI 1)), .int x3] [] w) ∧
  (∀ (scr : pX) (w : pW) (x1 : Int32) (x2 : Int32) (x3 : Int32), p_ev scr 119 68 [.ref 24, .int x1, .int x2, .int x3] [] w = p_ev scr 119 71 [.ref 24, .int x1, .int x2, .int (x3 + (-1 : Int32))] [] w) ∧
  (∀ (scr : pX) (w : pW) (x1 : Int32) (x2 : Int32) (x3 : Int32), p_ev scr 119 71 [.ref 24, .int x1, .int x2, .int x3] [] w = p_ev scr 119 5 [.ref 24, .int x1, .int x2, .int x3] [] w) ∧
  (∀ (scr : pX) (w : pW) (x1 : Int32) (x2 : Int32) (x3 : Int32), p_ev scr 119 74 [.ref 24, .int x1, .int x2, .int x3] [] w = p_ev scr 119 75 [.ref 24, .int x1, .int x2, .int x3] [.int x2] w) ∧
  (∀ (scr : pX) (w : pW) (x1 : Int32) (x2 : Int32) (x3 : Int32) (s0 : Int32), p_ev scr 119 75 [.ref 24, .int x1, .int x2, .int x3] [.int s0] w = some (.inl (some (.int s0)), w, 0)) :=
  ⟨fun _ _ _ => p_r (by decide +kernel : p_at 119 0 = some (.iconst 0)) rfl,
  fun _ _ _ _ => p_r (by decide +kernel : p_at 119 1 = some (.istore_n 2)) rfl,
  fun _ _ _ _ => p_r (by decide +kernel : p_at 119 2 = some (.bipush 7)) rfl,
  fun _ _ _ _ _ => p_r (by decide +kernel : p_at 119 4 = some (.istore_n 3)) rfl,
  fun _ _ _ _ _ _ => p_r (by decide +kernel : p_at 119 6 = some (.iload_n 1)) rfl,
  fun _ _ _ _ _ _ _ => p_rb2 (c := fun x y => decide (x < y)) (off := 67) (by decide +kernel : p_at 119 7 = some (.if_icmp .lt 67)) (by decide +kernel) rfl rfl rfl,
  fun _ _ _ _ _ => p_r (by decide +kernel : p_at 119 10 = some (.aload_n 0)) rfl,
  fun _ _ _ _ _ => p_rgf (f := some 25) (by decide +kernel : p_at 119 11 = some (.getfield 7)) (by decide +kernel : p_fld (p_own 119) 7 = some (5, 0)) (rfl : p_ob 24 = some (.inr (5, [some 25, some 26, none, none, none, some 27, some 28, some 29, some 30, some 31, some 32, some 33, some 34, some 35, some 36, some 37, some 38, some 39, none, none, some 40]))) rfl,
  fun _ _ _ _ _ => p_r (by decide +kernel : p_at 119 14 = some (.iload_n 3)) rfl,
  fun _ _ _ _ _ _ hp => p_riald (by decide +kernel : p_at 119 15 = some (.iaload)) (rfl : p_ob 25 = some (.inl (1, 16))) hp,
  fun _ _ _ _ _ _ => p_r (by decide +kernel : p_at 119 16 = some (.iconst 2)) rfl,
  fun _ _ _ _ _ _ _ => p_rb2 (c := fun x y => decide (¬ x = y)) (off := 51) (by decide +kernel : p_at 119 17 = some (.if_icmp .ne 51)) (by decide +kernel) rfl rfl rfl,
  fun _ _ _ _ _ => p_r (by decide +kernel : p_at 119 20 = some (.aload_n 0)) rfl,
  fun _ _ _ _ _ => p_r (by decide +kernel : p_at 119 21 = some (.iload_n 3)) rfl,
  fun _ _ _ _ _ _ => p_r (by decide +kernel : p_at 119 22 = some (.iload_n 1)) rfl,
  fun _ _ _ _ _ _ _ => p_rcv (nl := 4) (by decide +kernel : p_at 119 23 = some (.invokevirtual 142)) (by decide +kernel : p_inv (p_own 119) 142 = some (1, 118, 3)) (by decide +kernel) (rfl : p_ob 24 = some (.inr (5, [some 25, some 26, none, none, none, some 27, some 28, some 29, some 30, some 31, some 32, some 33, some 34, some 35, some 36, some 37, some 38, some 39, none, none, some 40]))) rfl rfl (Nat.le_of_ble_eq_true rfl) (Nat.le_of_ble_eq_true rfl) (Nat.le_of_ble_eq_true rfl) rfl,
  fun _ _ _ _ _ _ => p_rb1 (c := fun x => decide (x = 0)) (off := 42) (by decide +kernel : p_at 119 26 = some (.ifCond .eq 42)) (by decide +kernel) rfl rfl rfl,
  fun _ _ _ _ _ => p_r (by decide +kernel : p_at 119 29 = some (.aload_n 0)) rfl,
  fun _ _ _ _ _ => p_r (by decide +kernel : p_at 119 30 = some (.aload_n 0)) rfl,
  fun _ _ _ _ _ => p_rgf (f := some 26) (by decide +kernel : p_at 119 31 = some (.getfield 13)) (by decide +kernel : p_fld (p_own 119) 13 = some (5, 1)) (rfl : p_ob 24 = some (.inr (5, [some 25, some 26, none, none, none, some 27, some 28, some 29, some 30, some 31, some 32, some 33, some 34, some 35, some 36, some 37, some 38, some 39, none, none, some 40]))) rfl,
  fun _ _ _ _ _ => p_r (by decide +kernel : p_at 119 34 = some (.iload_n 3)) rfl,
  fun _ _ _ _ _ _ => p_rcv (nl := 5) (by decide +kernel : p_at 119 35 = some (.invokevirtual 124)) (by decide +kernel : p_inv (p_own 119) 124 = some (1, 111, 3)) (by decide +kernel) (rfl : p_ob 24 = some (.inr (5, [some 25, some 26, none, none, none, some 27, some 28, some 29, some 30, some 31, some 32, some 33, some 34, some 35, some 36, some 37, some 38, some 39, none, none, some 40]))) rfl rfl (Nat.le_of_ble_eq_true rfl) (Nat.le_of_ble_eq_true rfl) (Nat.le_of_ble_eq_true rfl) rfl,
  fun _ _ _ _ _ => p_r (by decide +kernel : p_at 119 38 = some (.aload_n 0)) rfl,
  fun _ _ _ _ _ => p_rgf (f := some 25) (by decide +kernel : p_at 119 39 = some (.getfield 7)) (by decide +kernel : p_fld (p_own 119) 7 = some (5, 0)) (rfl : p_ob 24 = some (.inr (5, [some 25, some 26, none, none, none, some 27, some 28, some 29, some 30, some 31, some 32, some 33, some 34, some 35, some 36, some 37, some 38, some 39, none, none, some 40]))) rfl,
  fun _ _ _ _ _ => p_r (by decide +kernel : p_at 119 42 = some (.iload_n 3)) rfl,
  fun _ _ _ _ _ _ => p_r (by decide +kernel : p_at 119 43 = some (.iconst 1)) rfl,
  fun _ _ _ _ _ _ _ hp => p_riast (by decide +kernel : p_at 119 44 = some (.iastore)) (rfl : p_ob 25 = some (.inl (1, 16))) hp,
  fun _ _ _ _ _ => p_r (by decide +kernel : p_at 119 45 = some (.aload_n 0)) rfl,
  fun _ _ _ _ _ => p_rgf (f := some 25) (by decide +kernel : p_at 119 46 = some (.getfield 7)) (by decide +kernel : p_fld (p_own 119) 7 = some (5, 0)) (rfl : p_ob 24 = some (.inr (5, [some 25, some 26, none, none, none, some 27, some 28, some 29, some 30, some 31, some 32, some 33, some 34, some 35, some 36, some 37, some 38, some 39, none, none, some 40]))) rfl,
  fun _ _ _ _ _ => p_r (by decide +kernel : p_at 119 49 = some (.iconst 2)) rfl,
  fun _ _ _ _ _ _ => p_r (by decide +kernel : p_at 119 50 = some (.iload_n 3)) rfl,
  fun _ _ _ _ _ _ _ => p_r (by decide +kernel : p_at 119 51 = some (.imul)) rfl,
  fun _ _ _ _ _ _ => p_r (by decide +kernel : p_at 119 52 = some (.iconst 0)) rfl,
  fun _ _ _ _ _ _ _ hp => p_riast (by decide +kernel : p_at 119 53 = some (.iastore)) (rfl : p_ob 25 = some (.inl (1, 16))) hp,
  fun _ _ _ _ _ => p_r (by decide +kernel : p_at 119 54 = some (.aload_n 0)) rfl,
  fun _ _ _ _ _ => p_rgf (f := some 25) (by decide +kernel : p_at 119 55 = some (.getfield 7)) (by decide +kernel : p_fld (p_own 119) 7 = some (5, 0)) (rfl : p_ob 24 = some (.inr (5, [some 25, some 26, none, none, none, some 27, some 28, some 29, some 30, some 31, some 32, some 33, some 34, some 35, some 36, some 37, some 38, some 39, none, none, some 40]))) rfl,
  fun _ _ _ _ _ => p_r (by decide +kernel : p_at 119 58 = some (.iconst 2)) rfl,
  fun _ _ _ _ _ _ => p_r (by decide +kernel : p_at 119 59 = some (.iload_n 3)) rfl,
  fun _ _ _ _ _ _ _ => p_r (by decide +kernel : p_at 119 60 = some (.imul)) rfl,
  fun _ _ _ _ _ _ => p_r (by decide +kernel : p_at 119 61 = some (.iconst 1)) rfl,
  fun _ _ _ _ _ _ _ => p_r (by decide +kernel : p_at 119 62 = some (.iadd)) rfl,
  fun _ _ _ _ _ _ => p_r (by decide +kernel : p_at 119 63 = some (.iconst 0)) rfl,
  fun _ _ _ _ _ _ _ hp => p_riast (by decide +kernel : p_at 119 64 = some (.iastore)) (rfl : p_ob 25 = some (.inl (1, 16))) hp,
  fun _ _ _ _ _ => p_r (by decide +kernel : p_at 119 65 = some (.iinc 2 1)) rfl,
  fun _ _ _ _ _ => p_r (by decide +kernel : p_at 119 68 = some (.iinc 3 (-1))) rfl,
  fun _ _ _ _ _ => p_rgo (by decide +kernel : p_at 119 71 = some (.goto (-66))) (by decide +kernel),
  fun _ _ _ _ _ => p_r (by decide +kernel : p_at 119 74 = some (.iload_n 2)) rfl,
  fun _ _ _ _ _ _ => p_riret (by decide +kernel : p_at 119 75 = some (.ireturn)) (by decide +kernel)⟩
theorem H119_5 :
  (∀ (scr : pX) (w : pW) (x1 : Int32) (x2 : Int32) (x3 : Int32), p_ev scr 119 5 [.ref 24, .int x1, .int x2, .int x3] [] w = p_ev scr 119 6 [.ref 24, .int x1, .int x2, .int x3] [.int x3] w) :=
  fun _ _ _ _ _ => p_r (by decide +kernel : p_at 119 5 = some (.iload_n 3)) rfl
-- 120: join
theorem M120 :
  (∀ (scr : pX) (w : pW) (x1 : Int32), p_ev scr 120 0 [.ref 24, .int x1] [] w = p_ev scr 120 1 [.ref 24, .int x1] [.ref 24] w) ∧
  (∀ (scr : pX) (w : pW) (x1 : Int32), p_ev scr 120 1 [.ref 24, .int x1] [.ref 24] w = p_ev scr 120 2 [.ref 24, .int x1] [.int (nI 0), .ref 24] w) ∧
  (∀ (scr : pX) (w : pW) (x1 : Int32) (s0 : Int32), p_ev scr 120 2 [.ref 24, .int x1] [.int s0, .ref 24] w = p_ev scr 120 5 [.ref 24, .int x1] [] (p_u w.1 24 4 s0, w.2)) ∧
  (∀ (scr : pX) (w : pW) (x1 : Int32), p_ev scr 120 5 [.ref 24, .int x1] [] w = p_ev scr 120 6 [.ref 24, .int x1] [.ref 24] w) ∧
  (∀ (scr : pX) (w : pW) (x1 : Int32), p_ev scr 120 6 [.ref 24, .int x1] [.ref 24] w = p_ev scr 120 7 [.ref 24, .int x1] [.int x1, .ref 24] w) ∧
  (∀ (scr : pX) (w : pW) (x1 : Int32) (s0 : Int32), p_ev scr 120 7 [.ref 24, .int x1] [.int s0, .ref 24] w = p_bnd scr 120 7 10 [.ref 24, .int x1] [] (p_ev none 102 0 [.ref 24, .int s0] [] w)) ∧
  (∀ (scr : pX) (w : pW) (x1 : Int32) (s0 : Int32), p_ev scr 120 10 [.ref 24, .int x1] [.int s0] w = if ¬ s0 = nI 0 then p_ev scr 120 19 [.ref 24, .int x1] [] w else p_ev scr 120 13 [.ref 24, .int x1] [] w) ∧
  (∀ (scr : pX) (w : pW) (x1 : Int32), p_ev scr 120 13 [.ref 24, .int x1] [] w = p_ev scr 120 14 [.ref 24, .int x1] [.ref 24] w) ∧
  (∀ (scr : pX) (w : pW) (x1 : Int32), p_ev scr 120 14 [.ref 24, .int x1] [.ref 24] w = p_ev scr 120 15 [.ref 24, .int x1] [.int (nI 1), .ref 24] w) ∧
  (∀ (scr : pX) (w : pW) (x1 : Int32) (s0 : Int32), p_ev scr 120 15 [.ref 24, .int x1] [.int s0, .ref 24] w = p_bnd scr 120 15 18 [.ref 24, .int x1] [] (p_ev none 96 0 [.ref 24, .int s0] [] w)) ∧
  (∀ (scr : pX) (w : pW) (x1 : Int32) (s0 : Int32), p_ev scr 120 18 [.ref 24, .int x1] [.int s0] w = some (.inl (some (.int s0)), w, 0)) ∧
  (∀ (scr : pX) (w : pW) (x1 : Int32), p_ev scr 120 19 [.ref 24, .int x1] [] w = p_ev scr 120 20 [.ref 24, .int x1] [.ref 24] w) ∧
  (∀ (scr : pX) (w : pW) (x1 : Int32), p_ev scr 120 20 [.ref 24, .int x1] [.ref 24] w = p_ev scr 120 23 [.ref 24, .int x1] [.ref 25] w) ∧
  (∀ (scr : pX) (w : pW) (x1 : Int32), p_ev scr 120 23 [.ref 24, .int x1] [.ref 25] w = p_ev scr 120 24 [.ref 24, .int x1] [.int x1, .ref 25] w) ∧
  (∀ (scr : pX) (w : pW) (x1 : Int32) (s0 : Int32), p_out s0 16 = false → p_ev scr 120 24 [.ref 24, .int x1] [.int s0, .ref 25] w = p_ev scr 120 25 [.ref 24, .int x1] [.int (w.2.2 25 s0.toNatClampNeg)] w) ∧
  (∀ (scr : pX) (w : pW) (x1 : Int32) (s0 : Int32), p_ev scr 120 25 [.ref 24, .int x1] [.int s0] w = p_ev scr 120 26 [.ref 24, .int x1] [.int (nI 2), .int s0] w) ∧
  (∀ (scr : pX) (w : pW) (x1 : Int32) (s0 : Int32) (s1 : Int32), p_ev scr 120 26 [.ref 24, .int x1] [.int s0, .int s1] w = if s1 = s0 then p_ev scr 120 35 [.ref 24, .int x1] [] w else p_ev scr 120 29 [.ref 24, .int x1] [] w) ∧
  (∀ (scr : pX) (w : pW) (x1 : Int32), p_ev scr 120 29 [.ref 24, .int x1] [] w = p_ev scr 120 30 [.ref 24, .int x1] [.ref 24] w) ∧
  (∀ (scr : pX) (w : pW) (x1 : Int32), p_ev scr 120 30 [.ref 24, .int x1] [.ref 24] w = p_ev scr 120 31 [.ref 24, .int x1] [.int (nI 2), .ref 24] w) ∧
  (∀ (scr : pX) (w : pW) (x1 : Int32) (s0 : Int32), p_ev scr 120 31 [.ref 24, .int x1] [.int s0, .ref 24] w = p_bnd scr 120 31 34 [.ref 24, .int x1] [] (p_ev none 96 0 [.ref 24, .int s0] [] w)) ∧
  (∀ (scr : pX) (w : pW) (x1 : Int32) (s0 : Int32), p_ev scr 120 34 [.ref 24, .int x1] [.int s0] w = some (.inl (some (.int s0)), w, 0)) ∧
  (∀ (scr : pX) (w : pW) (x1 : Int32), p_ev scr 120 35 [.ref 24, .int x1] [] w = p_ev scr 120 36 [.ref 24, .int x1] [.ref 24] w) ∧
  (∀ (scr : pX) (w : pW) (x1 : Int32), p_ev scr 120 36 [.ref 24, .int x1] [.ref 24] w = p_ev scr 120 37 [.ref 24, .int x1] [.int x1, .ref 24] w) ∧
  (∀ (scr : pX) (w : pW) (x1 : Int32) (s0 : Int32), p_ev scr 120 37 [.ref 24, .int x1] [.int s0, .ref 24] w = p_bnd scr 120 37 40 [.ref 24, .int x1] [] (p_ev none 119 0 [.ref 24, .int s0, p_U, p_U] [] w)) ∧
  (∀ (scr : pX) (w : pW) (x1 : Int32) (s0 : Int32), p_ev scr 120 40 [.ref 24, .int x1] [.int s0] w = some (.inl (some (.int s0)), w, 0)) :=
  ⟨fun _ _ _ => p_r (by decide +kernel : p_at 120 0 = some (.aload_n 0)) rfl,
  fun _ _ _ => p_r (by decide +kernel : p_at 120 1 = some (.iconst 0)) rfl,
  fun _ _ _ _ => p_rpf (by decide +kernel : p_at 120 2 = some (.putfield 63)) (by decide +kernel : p_fld (p_own 120) 63 = some (5, 4)) (rfl : p_ob 24 = some (.inr (5, [some 25, some 26, none, none, none, some 27, some 28, some 29, some 30, some 31, some 32, some 33, some 34, some 35, some 36, some 37, some 38, some 39, none, none, some 40]))) rfl,
  fun _ _ _ => p_r (by decide +kernel : p_at 120 5 = some (.aload_n 0)) rfl,
  fun _ _ _ => p_r (by decide +kernel : p_at 120 6 = some (.iload_n 1)) rfl,
  fun _ _ _ _ => p_rcv (nl := 2) (by decide +kernel : p_at 120 7 = some (.invokevirtual 135)) (by decide +kernel : p_inv (p_own 120) 135 = some (1, 102, 2)) (by decide +kernel) (rfl : p_ob 24 = some (.inr (5, [some 25, some 26, none, none, none, some 27, some 28, some 29, some 30, some 31, some 32, some 33, some 34, some 35, some 36, some 37, some 38, some 39, none, none, some 40]))) rfl rfl (Nat.le_of_ble_eq_true rfl) (Nat.le_of_ble_eq_true rfl) (Nat.le_of_ble_eq_true rfl) rfl,
  fun _ _ _ _ => p_rb1 (c := fun x => decide (¬ x = 0)) (off := 9) (by decide +kernel : p_at 120 10 = some (.ifCond .ne 9)) (by decide +kernel) rfl rfl rfl,
  fun _ _ _ => p_r (by decide +kernel : p_at 120 13 = some (.aload_n 0)) rfl,
  fun _ _ _ => p_r (by decide +kernel : p_at 120 14 = some (.iconst 1)) rfl,
  fun _ _ _ _ => p_rcv (nl := 2) (by decide +kernel : p_at 120 15 = some (.invokevirtual 76)) (by decide +kernel : p_inv (p_own 120) 76 = some (1, 96, 2)) (by decide +kernel) (rfl : p_ob 24 = some (.inr (5, [some 25, some 26, none, none, none, some 27, some 28, some 29, some 30, some 31, some 32, some 33, some 34, some 35, some 36, some 37, some 38, some 39, none, none, some 40]))) rfl rfl (Nat.le_of_ble_eq_true rfl) (Nat.le_of_ble_eq_true rfl) (Nat.le_of_ble_eq_true rfl) rfl,
  fun _ _ _ _ => p_riret (by decide +kernel : p_at 120 18 = some (.ireturn)) (by decide +kernel),
  fun _ _ _ => p_r (by decide +kernel : p_at 120 19 = some (.aload_n 0)) rfl,
  fun _ _ _ => p_rgf (f := some 25) (by decide +kernel : p_at 120 20 = some (.getfield 7)) (by decide +kernel : p_fld (p_own 120) 7 = some (5, 0)) (rfl : p_ob 24 = some (.inr (5, [some 25, some 26, none, none, none, some 27, some 28, some 29, some 30, some 31, some 32, some 33, some 34, some 35, some 36, some 37, some 38, some 39, none, none, some 40]))) rfl,
  fun _ _ _ => p_r (by decide +kernel : p_at 120 23 = some (.iload_n 1)) rfl,
  fun _ _ _ _ hp => p_riald (by decide +kernel : p_at 120 24 = some (.iaload)) (rfl : p_ob 25 = some (.inl (1, 16))) hp,
  fun _ _ _ _ => p_r (by decide +kernel : p_at 120 25 = some (.iconst 2)) rfl,
  fun _ _ _ _ _ => p_rb2 (c := fun x y => decide (x = y)) (off := 9) (by decide +kernel : p_at 120 26 = some (.if_icmp .eq 9)) (by decide +kernel) rfl rfl rfl,
  fun _ _ _ => p_r (by decide +kernel : p_at 120 29 = some (.aload_n 0)) rfl,
  fun _ _ _ => p_r (by decide +kernel : p_at 120 30 = some (.iconst 2)) rfl,
  fun _ _ _ _ => p_rcv (nl := 2) (by decide +kernel : p_at 120 31 = some (.invokevirtual 76)) (by decide +kernel : p_inv (p_own 120) 76 = some (1, 96, 2)) (by decide +kernel) (rfl : p_ob 24 = some (.inr (5, [some 25, some 26, none, none, none, some 27, some 28, some 29, some 30, some 31, some 32, some 33, some 34, some 35, some 36, some 37, some 38, some 39, none, none, some 40]))) rfl rfl (Nat.le_of_ble_eq_true rfl) (Nat.le_of_ble_eq_true rfl) (Nat.le_of_ble_eq_true rfl) rfl,
  fun _ _ _ _ => p_riret (by decide +kernel : p_at 120 34 = some (.ireturn)) (by decide +kernel),
  fun _ _ _ => p_r (by decide +kernel : p_at 120 35 = some (.aload_n 0)) rfl,
  fun _ _ _ => p_r (by decide +kernel : p_at 120 36 = some (.iload_n 1)) rfl,
  fun _ _ _ _ => p_rcv (nl := 4) (by decide +kernel : p_at 120 37 = some (.invokevirtual 146)) (by decide +kernel : p_inv (p_own 120) 146 = some (1, 119, 2)) (by decide +kernel) (rfl : p_ob 24 = some (.inr (5, [some 25, some 26, none, none, none, some 27, some 28, some 29, some 30, some 31, some 32, some 33, some 34, some 35, some 36, some 37, some 38, some 39, none, none, some 40]))) rfl rfl (Nat.le_of_ble_eq_true rfl) (Nat.le_of_ble_eq_true rfl) (Nat.le_of_ble_eq_true rfl) rfl,
  fun _ _ _ _ => p_riret (by decide +kernel : p_at 120 40 = some (.ireturn)) (by decide +kernel)⟩
-- 121: isNode
theorem M121 :
  (∀ (scr : pX) (w : pW) (x1 : Int32), p_ev scr 121 0 [.ref 24, .int x1] [] w = p_ev scr 121 1 [.ref 24, .int x1] [.ref 24] w) ∧
  (∀ (scr : pX) (w : pW) (x1 : Int32), p_ev scr 121 1 [.ref 24, .int x1] [.ref 24] w = p_ev scr 121 2 [.ref 24, .int x1] [.int (nI 0), .ref 24] w) ∧
  (∀ (scr : pX) (w : pW) (x1 : Int32) (s0 : Int32), p_ev scr 121 2 [.ref 24, .int x1] [.int s0, .ref 24] w = p_ev scr 121 5 [.ref 24, .int x1] [] (p_u w.1 24 4 s0, w.2)) ∧
  (∀ (scr : pX) (w : pW) (x1 : Int32), p_ev scr 121 5 [.ref 24, .int x1] [] w = p_ev scr 121 6 [.ref 24, .int x1] [.ref 24] w) ∧
  (∀ (scr : pX) (w : pW) (x1 : Int32), p_ev scr 121 6 [.ref 24, .int x1] [.ref 24] w = p_ev scr 121 7 [.ref 24, .int x1] [.int x1, .ref 24] w) ∧
  (∀ (scr : pX) (w : pW) (x1 : Int32) (s0 : Int32), p_ev scr 121 7 [.ref 24, .int x1] [.int s0, .ref 24] w = p_bnd scr 121 7 10 [.ref 24, .int x1] [] (p_ev none 102 0 [.ref 24, .int s0] [] w)) ∧
  (∀ (scr : pX) (w : pW) (x1 : Int32) (s0 : Int32), narrow .boolean (.int s0) = .int s0 → p_ev scr 121 10 [.ref 24, .int x1] [.int s0] w = some (.inl (some (.int s0)), w, 0)) :=
  ⟨fun _ _ _ => p_r (by decide +kernel : p_at 121 0 = some (.aload_n 0)) rfl,
  fun _ _ _ => p_r (by decide +kernel : p_at 121 1 = some (.iconst 0)) rfl,
  fun _ _ _ _ => p_rpf (by decide +kernel : p_at 121 2 = some (.putfield 63)) (by decide +kernel : p_fld (p_own 121) 63 = some (5, 4)) (rfl : p_ob 24 = some (.inr (5, [some 25, some 26, none, none, none, some 27, some 28, some 29, some 30, some 31, some 32, some 33, some 34, some 35, some 36, some 37, some 38, some 39, none, none, some 40]))) rfl,
  fun _ _ _ => p_r (by decide +kernel : p_at 121 5 = some (.aload_n 0)) rfl,
  fun _ _ _ => p_r (by decide +kernel : p_at 121 6 = some (.iload_n 1)) rfl,
  fun _ _ _ _ => p_rcv (nl := 2) (by decide +kernel : p_at 121 7 = some (.invokevirtual 135)) (by decide +kernel : p_inv (p_own 121) 135 = some (1, 102, 2)) (by decide +kernel) (rfl : p_ob 24 = some (.inr (5, [some 25, some 26, none, none, none, some 27, some 28, some 29, some 30, some 31, some 32, some 33, some 34, some 35, some 36, some 37, some 38, some 39, none, none, some 40]))) rfl rfl (Nat.le_of_ble_eq_true rfl) (Nat.le_of_ble_eq_true rfl) (Nat.le_of_ble_eq_true rfl) rfl,
  fun _ _ _ _ hp => p_rzret (by decide +kernel : p_at 121 10 = some (.ireturn)) (by decide +kernel) hp⟩
-- 122: isLeaf
theorem M122 :
  (∀ (scr : pX) (w : pW) (x1 : Int32), p_ev scr 122 0 [.ref 24, .int x1] [] w = p_ev scr 122 1 [.ref 24, .int x1] [.ref 24] w) ∧
  (∀ (scr : pX) (w : pW) (x1 : Int32), p_ev scr 122 1 [.ref 24, .int x1] [.ref 24] w = p_ev scr 122 2 [.ref 24, .int x1] [.int (nI 0), .ref 24] w) ∧
  (∀ (scr : pX) (w : pW) (x1 : Int32) (s0 : Int32), p_ev scr 122 2 [.ref 24, .int x1] [.int s0, .ref 24] w = p_ev scr 122 5 [.ref 24, .int x1] [] (p_u w.1 24 4 s0, w.2)) ∧
  (∀ (scr : pX) (w : pW) (x1 : Int32), p_ev scr 122 5 [.ref 24, .int x1] [] w = p_ev scr 122 6 [.ref 24, .int x1] [.ref 24] w) ∧
  (∀ (scr : pX) (w : pW) (x1 : Int32), p_ev scr 122 6 [.ref 24, .int x1] [.ref 24] w = p_ev scr 122 7 [.ref 24, .int x1] [.int x1, .ref 24] w) ∧
  (∀ (scr : pX) (w : pW) (x1 : Int32) (s0 : Int32), p_ev scr 122 7 [.ref 24, .int x1] [.int s0, .ref 24] w = p_bnd scr 122 7 10 [.ref 24, .int x1] [] (p_ev none 102 0 [.ref 24, .int s0] [] w)) ∧
  (∀ (scr : pX) (w : pW) (x1 : Int32) (s0 : Int32), p_ev scr 122 10 [.ref 24, .int x1] [.int s0] w = if ¬ s0 = nI 0 then p_ev scr 122 21 [.ref 24, .int x1] [] w else p_ev scr 122 13 [.ref 24, .int x1] [] w) ∧
  (∀ (scr : pX) (w : pW) (x1 : Int32), p_ev scr 122 13 [.ref 24, .int x1] [] w = p_ev scr 122 14 [.ref 24, .int x1] [.ref 24] w) ∧
  (∀ (scr : pX) (w : pW) (x1 : Int32), p_ev scr 122 14 [.ref 24, .int x1] [.ref 24] w = p_ev scr 122 15 [.ref 24, .int x1] [.int (nI 1), .ref 24] w) ∧
  (∀ (scr : pX) (w : pW) (x1 : Int32) (s0 : Int32), p_ev scr 122 15 [.ref 24, .int x1] [.int s0, .ref 24] w = p_bnd scr 122 15 18 [.ref 24, .int x1] [] (p_ev none 96 0 [.ref 24, .int s0] [] w)) ∧
  (∀ (scr : pX) (w : pW) (x1 : Int32) (s0 : Int32), p_ev scr 122 18 [.ref 24, .int x1] [.int s0] w = p_ev scr 122 19 [.ref 24, .int x1] [] w) ∧
  (∀ (scr : pX) (w : pW) (x1 : Int32), p_ev scr 122 19 [.ref 24, .int x1] [] w = p_ev scr 122 20 [.ref 24, .int x1] [.int (nI 0)] w) ∧
  (∀ (scr : pX) (w : pW) (x1 : Int32) (s0 : Int32), narrow .boolean (.int s0) = .int s0 → p_ev scr 122 20 [.ref 24, .int x1] [.int s0] w = some (.inl (some (.int s0)), w, 0)) ∧
  (∀ (scr : pX) (w : pW) (x1 : Int32), p_ev scr 122 21 [.ref 24, .int x1] [] w = p_ev scr 122 22 [.ref 24, .int x1] [.ref 24] w) ∧
  (∀ (scr : pX) (w : pW) (x1 : Int32), p_ev scr 122 22 [.ref 24, .int x1] [.ref 24] w = p_ev scr 122 25 [.ref 24, .int x1] [.ref 25] w) ∧
  (∀ (scr : pX) (w : pW) (x1 : Int32), p_ev scr 122 25 [.ref 24, .int x1] [.ref 25] w = p_ev scr 122 26 [.ref 24, .int x1] [.int x1, .ref 25] w) ∧
  (∀ (scr : pX) (w : pW) (x1 : Int32) (s0 : Int32), p_out s0 16 = false → p_ev scr 122 26 [.ref 24, .int x1] [.int s0, .ref 25] w = p_ev scr 122 27 [.ref 24, .int x1] [.int (w.2.2 25 s0.toNatClampNeg)] w) ∧
  (∀ (scr : pX) (w : pW) (x1 : Int32) (s0 : Int32), p_ev scr 122 27 [.ref 24, .int x1] [.int s0] w = p_ev scr 122 28 [.ref 24, .int x1] [.int (nI 1), .int s0] w) ∧
  (∀ (scr : pX) (w : pW) (x1 : Int32) (s0 : Int32) (s1 : Int32), p_ev scr 122 28 [.ref 24, .int x1] [.int s0, .int s1] w = if ¬ s1 = s0 then p_ev scr 122 35 [.ref 24, .int x1] [] w else p_ev scr 122 31 [.ref 24, .int x1] [] w) ∧
  (∀ (scr : pX) (w : pW) (x1 : Int32), p_ev scr 122 31 [.ref 24, .int x1] [] w = p_ev scr 122 32 [.ref 24, .int x1] [.int (nI 1)] w) ∧
  (∀ (scr : pX) (w : pW) (x1 : Int32) (s0 : Int32), p_ev scr 122 32 [.ref 24, .int x1] [.int s0] w = p_ev scr 122 36 [.ref 24, .int x1] [.int s0] w) ∧
  (∀ (scr : pX) (w : pW) (x1 : Int32), p_ev scr 122 35 [.ref 24, .int x1] [] w = p_ev scr 122 36 [.ref 24, .int x1] [.int (nI 0)] w) ∧
  (∀ (scr : pX) (w : pW) (x1 : Int32) (s0 : Int32), narrow .boolean (.int s0) = .int s0 → p_ev scr 122 36 [.ref 24, .int x1] [.int s0] w = some (.inl (some (.int s0)), w, 0)) :=
  ⟨fun _ _ _ => p_r (by decide +kernel : p_at 122 0 = some (.aload_n 0)) rfl,
  fun _ _ _ => p_r (by decide +kernel : p_at 122 1 = some (.iconst 0)) rfl,
  fun _ _ _ _ => p_rpf (by decide +kernel : p_at 122 2 = some (.putfield 63)) (by decide +kernel : p_fld (p_own 122) 63 = some (5, 4)) (rfl : p_ob 24 = some (.inr (5, [some 25, some 26, none, none, none, some 27, some 28, some 29, some 30, some 31, some 32, some 33, some 34, some 35, some 36, some 37, some 38, some 39, none, none, some 40]))) rfl,
  fun _ _ _ => p_r (by decide +kernel : p_at 122 5 = some (.aload_n 0)) rfl,
  fun _ _ _ => p_r (by decide +kernel : p_at 122 6 = some (.iload_n 1)) rfl,
  fun _ _ _ _ => p_rcv (nl := 2) (by decide +kernel : p_at 122 7 = some (.invokevirtual 135)) (by decide +kernel : p_inv (p_own 122) 135 = some (1, 102, 2)) (by decide +kernel) (rfl : p_ob 24 = some (.inr (5, [some 25, some 26, none, none, none, some 27, some 28, some 29, some 30, some 31, some 32, some 33, some 34, some 35, some 36, some 37, some 38, some 39, none, none, some 40]))) rfl rfl (Nat.le_of_ble_eq_true rfl) (Nat.le_of_ble_eq_true rfl) (Nat.le_of_ble_eq_true rfl) rfl,
  fun _ _ _ _ => p_rb1 (c := fun x => decide (¬ x = 0)) (off := 11) (by decide +kernel : p_at 122 10 = some (.ifCond .ne 11)) (by decide +kernel) rfl rfl rfl,
  fun _ _ _ => p_r (by decide +kernel : p_at 122 13 = some (.aload_n 0)) rfl,
  fun _ _ _ => p_r (by decide +kernel : p_at 122 14 = some (.iconst 1)) rfl,
  fun _ _ _ _ => p_rcv (nl := 2) (by decide +kernel : p_at 122 15 = some (.invokevirtual 76)) (by decide +kernel : p_inv (p_own 122) 76 = some (1, 96, 2)) (by decide +kernel) (rfl : p_ob 24 = some (.inr (5, [some 25, some 26, none, none, none, some 27, some 28, some 29, some 30, some 31, some 32, some 33, some 34, some 35, some 36, some 37, some 38, some 39, none, none, some 40]))) rfl rfl (Nat.le_of_ble_eq_true rfl) (Nat.le_of_ble_eq_true rfl) (Nat.le_of_ble_eq_true rfl) rfl,
  fun _ _ _ _ => p_r (by decide +kernel : p_at 122 18 = some (.pop)) rfl,
  fun _ _ _ => p_r (by decide +kernel : p_at 122 19 = some (.iconst 0)) rfl,
  fun _ _ _ _ hp => p_rzret (by decide +kernel : p_at 122 20 = some (.ireturn)) (by decide +kernel) hp,
  fun _ _ _ => p_r (by decide +kernel : p_at 122 21 = some (.aload_n 0)) rfl,
  fun _ _ _ => p_rgf (f := some 25) (by decide +kernel : p_at 122 22 = some (.getfield 7)) (by decide +kernel : p_fld (p_own 122) 7 = some (5, 0)) (rfl : p_ob 24 = some (.inr (5, [some 25, some 26, none, none, none, some 27, some 28, some 29, some 30, some 31, some 32, some 33, some 34, some 35, some 36, some 37, some 38, some 39, none, none, some 40]))) rfl,
  fun _ _ _ => p_r (by decide +kernel : p_at 122 25 = some (.iload_n 1)) rfl,
  fun _ _ _ _ hp => p_riald (by decide +kernel : p_at 122 26 = some (.iaload)) (rfl : p_ob 25 = some (.inl (1, 16))) hp,
  fun _ _ _ _ => p_r (by decide +kernel : p_at 122 27 = some (.iconst 1)) rfl,
  fun _ _ _ _ _ => p_rb2 (c := fun x y => decide (¬ x = y)) (off := 7) (by decide +kernel : p_at 122 28 = some (.if_icmp .ne 7)) (by decide +kernel) rfl rfl rfl,
  fun _ _ _ => p_r (by decide +kernel : p_at 122 31 = some (.iconst 1)) rfl,
  fun _ _ _ _ => p_rgo (by decide +kernel : p_at 122 32 = some (.goto 4)) (by decide +kernel),
  fun _ _ _ => p_r (by decide +kernel : p_at 122 35 = some (.iconst 0)) rfl,
  fun _ _ _ _ hp => p_rzret (by decide +kernel : p_at 122 36 = some (.ireturn)) (by decide +kernel) hp⟩
-- 123: leaves
theorem M123 :
  (∀ (scr : pX) (w : pW), p_ev scr 123 0 [.ref 24, p_U, p_U] [] w = p_ev scr 123 1 [.ref 24, p_U, p_U] [.ref 24] w) ∧
  (∀ (scr : pX) (w : pW), p_ev scr 123 1 [.ref 24, p_U, p_U] [.ref 24] w = p_ev scr 123 2 [.ref 24, p_U, p_U] [.int (nI 0), .ref 24] w) ∧
  (∀ (scr : pX) (w : pW) (s0 : Int32), p_ev scr 123 2 [.ref 24, p_U, p_U] [.int s0, .ref 24] w = p_ev scr 123 5 [.ref 24, p_U, p_U] [] (p_u w.1 24 4 s0, w.2)) ∧
  (∀ (scr : pX) (w : pW), p_ev scr 123 5 [.ref 24, p_U, p_U] [] w = p_ev scr 123 6 [.ref 24, p_U, p_U] [.int (nI 0)] w) ∧
  (∀ (scr : pX) (w : pW) (s0 : Int32), p_ev scr 123 6 [.ref 24, p_U, p_U] [.int s0] w = p_ev scr 123 7 [.ref 24, .int s0, p_U] [] w) ∧
  (∀ (scr : pX) (w : pW) (x1 : Int32), p_ev scr 123 7 [.ref 24, .int x1, p_U] [] w = p_ev scr 123 8 [.ref 24, .int x1, p_U] [.int (nI 1)] w) ∧
  (∀ (scr : pX) (w : pW) (x1 : Int32) (s0 : Int32), p_ev scr 123 8 [.ref 24, .int x1, p_U] [.int s0] w = p_ev scr 123 9 [.ref 24, .int x1, .int s0] [] w) ∧
  (∀ (scr : pX) (w : pW) (x1 : Int32) (x2 : Int32) (s0 : Int32), p_ev scr 123 10 [.ref 24, .int x1, .int x2] [.int s0] w = p_ev scr 123 12 [.ref 24, .int x1, .int x2] [.int (nI 16), .int s0] w) ∧
  (∀ (scr : pX) (w : pW) (x1 : Int32) (x2 : Int32) (s0 : Int32) (s1 : Int32), p_ev scr 123 12 [.ref 24, .int x1, .int x2] [.int s0, .int s1] w = if s0 ≤ s1 then p_ev scr 123 39 [.ref 24, .int x1, .int x2] [] w else p_ev scr 123 15 [.ref 24, .int x1, .int x2] [] w) ∧
  (∀ (scr : pX) (w : pW) (x1 : Int32) (x2 : Int32), p_ev scr 123 15 [.ref 24, .int x1, .int x2] [] w = p_ev scr 123 16 [.ref 24, .int x1, .int x2] [.int x1] w) ∧
  (∀ (scr : pX) (w : pW) (x1 : Int32) (x2 : Int32) (s0 : Int32), p_ev scr 123 16 [.ref 24, .int x1, .int x2] [.int s0] w = p_ev scr 123 17 [.ref 24, .int x1, .int x2] [.ref 24, .int s0] w) ∧
  (∀ (scr : pX) (w : pW) (x1 : Int32) (x2 : Int32) (s1 : Int32), p_ev scr 123 17 [.ref 24, .int x1, .int x2] [.ref 24, .int s1] w = p_ev scr 123 20 [.ref 24, .int x1, .int x2] [.ref 25, .int s1] w) ∧
  (∀ (scr : pX) (w : pW) (x1 : Int32) (x2 : Int32) (s1 : Int32), p_ev scr 123 20 [.ref 24, .int x1, .int x2] [.ref 25, .int s1] w = p_ev scr 123 21 [.ref 24, .int x1, .int x2] [.int x2, .ref 25, .int s1] w) ∧
  (∀ (scr : pX) (w : pW) (x1 : Int32) (x2 : Int32) (s0 : Int32) (s2 : Int32), p_out s0 16 = false → p_ev scr 123 21 [.ref 24, .int x1, .int x2] [.int s0, .ref 25, .int s2] w = p_ev scr 123 22 [.ref 24, .int x1, .int x2] [.int (w.2.2 25 s0.toNatClampNeg), .int s2] w) ∧
  (∀ (scr : pX) (w : pW) (x1 : Int32) (x2 : Int32) (s0 : Int32) (s1 : Int32), p_ev scr 123 22 [.ref 24, .int x1, .int x2] [.int s0, .int s1] w = p_ev scr 123 23 [.ref 24, .int x1, .int x2] [.int (nI 1), .int s0, .int s1] w) ∧
  (∀ (scr : pX) (w : pW) (x1 : Int32) (x2 : Int32) (s0 : Int32) (s1 : Int32) (s2 : Int32), p_ev scr 123 23 [.ref 24, .int x1, .int x2] [.int s0, .int s1, .int s2] w = if ¬ s1 = s0 then p_ev scr 123 30 [.ref 24, .int x1, .int x2] [.int s2] w else p_ev scr 123 26 [.ref 24, .int x1, .int x2] [.int s2] w) ∧
  (∀ (scr : pX) (w : pW) (x1 : Int32) (x2 : Int32) (s0 : Int32), p_ev scr 123 26 [.ref 24, .int x1, .int x2] [.int s0] w = p_ev scr 123 27 [.ref 24, .int x1, .int x2] [.int (nI 1), .int s0] w) ∧
  (∀ (scr : pX) (w : pW) (x1 : Int32) (x2 : Int32) (s0 : Int32) (s1 : Int32), p_ev scr 123 27 [.ref 24, .int x1, .int x2] [.int s0, .int s1] w = p_ev scr 123 31 [.ref 24, .int x1, .int x2] [.int s0, .int s1] w) ∧
  (∀ (scr : pX) (w : pW) (x1 : Int32) (x2 : Int32) (s0 : Int32), p_ev scr 123 30 [.ref 24, .int x1, .int x2] [.int s0] w = p_ev scr 123 31 [.ref 24, .int x1, .int x2] [.int (nI 0), .int s0] w) ∧
  (∀ (scr : pX) (w : pW) (x1 : Int32) (x2 : Int32) (s0 : Int32) (s1 : Int32), p_ev scr 123 31 [.ref 24, .int x1, .int x2] [.int s0, .int s1] w = p_ev scr 123 32 [.ref 24, .int x1, .int x2] [.int (s1 + s0)] w) ∧
  (∀ (scr : pX) (w : pW) (x1 : Int32) (x2 : Int32) (s0 : Int32), p_ev scr 123 32 [.ref 24, .int x1, .int x2] [.int s0] w = p_ev scr 123 33 [.ref 24, .int s0, .int x2] [] w) ∧
  (∀ (scr : pX) (w : pW) (x1 : Int32) (x2 : Int32), p_ev scr 123 33 [.ref 24, .int x1, .int x2] [] w = p_ev scr 123 36 [.ref 24, .int x1, .int (x2 + (nI 1))] [] w) ∧
  (∀ (scr : pX) (w : pW) (x1 : Int32) (x2 : Int32), p_ev scr 123 36 [.ref 24, .int x1, .int x2] [] w = p_ev scr 123 9 [.ref 24, .int x1, .int x2] [] w) ∧
  (∀ (scr : pX) (w : pW) (x1 : Int32) (x2 : Int32), p_ev scr 123 39 [.ref 24, .int x1, .int x2] [] w = p_ev scr 123 40 [.ref 24, .int x1, .int x2] [.int x1] w) ∧
  (∀ (scr : pX) (w : pW) (x1 : Int32) (x2 : Int32) (s0 : Int32), p_ev scr 123 40 [.ref 24, .int x1, .int x2] [.int s0] w = some (.inl (some (.int s0)), w, 0)) :=
  ⟨fun _ _ => p_r (by decide +kernel : p_at 123 0 = some (.aload_n 0)) rfl,
  fun _ _ => p_r (by decide +kernel : p_at 123 1 = some (.iconst 0)) rfl,
  fun _ _ _ => p_rpf (by decide +kernel : p_at 123 2 = some (.putfield 63)) (by decide +kernel : p_fld (p_own 123) 63 = some (5, 4)) (rfl : p_ob 24 = some (.inr (5, [some 25, some 26, none, none, none, some 27, some 28, some 29, some 30, some 31, some 32, some 33, some 34, some 35, some 36, some 37, some 38, some 39, none, none, some 40]))) rfl,
  fun _ _ => p_r (by decide +kernel : p_at 123 5 = some (.iconst 0)) rfl,
  fun _ _ _ => p_r (by decide +kernel : p_at 123 6 = some (.istore_n 1)) rfl,
  fun _ _ _ => p_r (by decide +kernel : p_at 123 7 = some (.iconst 1)) rfl,
  fun _ _ _ _ => p_r (by decide +kernel : p_at 123 8 = some (.istore_n 2)) rfl,
  fun _ _ _ _ _ => p_r (by decide +kernel : p_at 123 10 = some (.bipush 16)) rfl,
  fun _ _ _ _ _ _ => p_rb2 (c := fun x y => decide (y ≤ x)) (off := 27) (by decide +kernel : p_at 123 12 = some (.if_icmp .ge 27)) (by decide +kernel) rfl rfl rfl,
  fun _ _ _ _ => p_r (by decide +kernel : p_at 123 15 = some (.iload_n 1)) rfl,
  fun _ _ _ _ _ => p_r (by decide +kernel : p_at 123 16 = some (.aload_n 0)) rfl,
  fun _ _ _ _ _ => p_rgf (f := some 25) (by decide +kernel : p_at 123 17 = some (.getfield 7)) (by decide +kernel : p_fld (p_own 123) 7 = some (5, 0)) (rfl : p_ob 24 = some (.inr (5, [some 25, some 26, none, none, none, some 27, some 28, some 29, some 30, some 31, some 32, some 33, some 34, some 35, some 36, some 37, some 38, some 39, none, none, some 40]))) rfl,
  fun _ _ _ _ _ => p_r (by decide +kernel : p_at 123 20 = some (.iload_n 2)) rfl,
  fun _ _ _ _ _ _ hp => p_riald (by decide +kernel : p_at 123 21 = some (.iaload)) (rfl : p_ob 25 = some (.inl (1, 16))) hp,
  fun _ _ _ _ _ _ => p_r (by decide +kernel : p_at 123 22 = some (.iconst 1)) rfl,
  fun _ _ _ _ _ _ _ => p_rb2 (c := fun x y => decide (¬ x = y)) (off := 7) (by decide +kernel : p_at 123 23 = some (.if_icmp .ne 7)) (by decide +kernel) rfl rfl rfl,
  fun _ _ _ _ _ => p_r (by decide +kernel : p_at 123 26 = some (.iconst 1)) rfl,
  fun _ _ _ _ _ _ => p_rgo (by decide +kernel : p_at 123 27 = some (.goto 4)) (by decide +kernel),
  fun _ _ _ _ _ => p_r (by decide +kernel : p_at 123 30 = some (.iconst 0)) rfl,
  fun _ _ _ _ _ _ => p_r (by decide +kernel : p_at 123 31 = some (.iadd)) rfl,
  fun _ _ _ _ _ => p_r (by decide +kernel : p_at 123 32 = some (.istore_n 1)) rfl,
  fun _ _ _ _ => p_r (by decide +kernel : p_at 123 33 = some (.iinc 2 1)) rfl,
  fun _ _ _ _ => p_rgo (by decide +kernel : p_at 123 36 = some (.goto (-27))) (by decide +kernel),
  fun _ _ _ _ => p_r (by decide +kernel : p_at 123 39 = some (.iload_n 1)) rfl,
  fun _ _ _ _ _ => p_riret (by decide +kernel : p_at 123 40 = some (.ireturn)) (by decide +kernel)⟩
theorem H123_9 :
  (∀ (scr : pX) (w : pW) (x1 : Int32) (x2 : Int32), p_ev scr 123 9 [.ref 24, .int x1, .int x2] [] w = p_ev scr 123 10 [.ref 24, .int x1, .int x2] [.int x2] w) :=
  fun _ _ _ _ => p_r (by decide +kernel : p_at 123 9 = some (.iload_n 2)) rfl
-- 124: leafAt
theorem M124 :
  (∀ (scr : pX) (w : pW) (x1 : Int32), p_ev scr 124 0 [.ref 24, .int x1, p_U, p_U, p_U] [] w = p_ev scr 124 1 [.ref 24, .int x1, p_U, p_U, p_U] [.ref 24] w) ∧
  (∀ (scr : pX) (w : pW) (x1 : Int32), p_ev scr 124 1 [.ref 24, .int x1, p_U, p_U, p_U] [.ref 24] w = p_ev scr 124 2 [.ref 24, .int x1, p_U, p_U, p_U] [.int (nI 0), .ref 24] w) ∧
  (∀ (scr : pX) (w : pW) (x1 : Int32) (s0 : Int32), p_ev scr 124 2 [.ref 24, .int x1, p_U, p_U, p_U] [.int s0, .ref 24] w = p_ev scr 124 5 [.ref 24, .int x1, p_U, p_U, p_U] [] (p_u w.1 24 4 s0, w.2)) ∧
  (∀ (scr : pX) (w : pW) (x1 : Int32), p_ev scr 124 5 [.ref 24, .int x1, p_U, p_U, p_U] [] w = p_ev scr 124 6 [.ref 24, .int x1, p_U, p_U, p_U] [.int (nI 0)] w) ∧
  (∀ (scr : pX) (w : pW) (x1 : Int32) (s0 : Int32), p_ev scr 124 6 [.ref 24, .int x1, p_U, p_U, p_U] [.int s0] w = p_ev scr 124 7 [.ref 24, .int x1, .int s0, p_U, p_U] [] w) ∧
  (∀ (scr : pX) (w : pW) (x1 : Int32) (x2 : Int32), p_ev scr 124 7 [.ref 24, .int x1, .int x2, p_U, p_U] [] w = p_ev scr 124 8 [.ref 24, .int x1, .int x2, p_U, p_U] [.int (nI 1)] w) ∧
  (∀ (scr : pX) (w : pW) (x1 : Int32) (x2 : Int32) (s0 : Int32), p_ev scr 124 8 [.ref 24, .int x1, .int x2, p_U, p_U] [.int s0] w = p_ev scr 124 9 [.ref 24, .int x1, .int x2, .int s0, p_U] [] w) ∧
  (∀ (scr : pX) (w : pW) (x1 : Int32) (x2 : Int32) (x3 : Int32), p_ev scr 124 9 [.ref 24, .int x1, .int x2, .int x3, p_U] [] w = p_ev scr 124 10 [.ref 24, .int x1, .int x2, .int x3, p_U] [.ref 24] w) ∧
  (∀ (scr : pX) (w : pW) (x1 : Int32) (x2 : Int32) (x3 : Int32), p_ev scr 124 10 [.ref 24, .int x1, .int x2, .int x3, p_U] [.ref 24] w = p_ev scr 124 13 [.ref 24, .int x1, .int x2, .int x3, p_U] [.ref 31] w) ∧
  (∀ (scr : pX) (w : pW) (x1 : Int32) (x2 : Int32) (x3 : Int32), p_ev scr 124 13 [.ref 24, .int x1, .int x2, .int x3, p_U] [.ref 31] w = p_ev scr 124 14 [.ref 24, .int x1, .int x2, .int x3, p_U] [.int (nI 0), .ref 31] w) ∧
  (∀ (scr : pX) (w : pW) (x1 : Int32) (x2 : Int32) (x3 : Int32) (s0 : Int32), p_ev scr 124 14 [.ref 24, .int x1, .int x2, .int x3, p_U] [.int s0, .ref 31] w = p_ev scr 124 15 [.ref 24, .int x1, .int x2, .int x3, p_U] [.int (nI 1), .int s0, .ref 31] w) ∧
  (∀ (scr : pX) (w : pW) (x1 : Int32) (x2 : Int32) (x3 : Int32) (s0 : Int32) (s1 : Int32), p_out s1 16 = false → p_ev scr 124 15 [.ref 24, .int x1, .int x2, .int x3, p_U] [.int s0, .int s1, .ref 31] w = p_ev scr 124 16 [.ref 24, .int x1, .int x2, .int x3, p_U] [] (w.1, w.2.1, p_u w.2.2 31 s1.toNatClampNeg s0)) ∧
  (∀ (scr : pX) (w : pW) (x1 : Int32) (x2 : Int32) (x3 : Int32) (z4 : Value) (s0 : Int32), p_ev scr 124 17 [.ref 24, .int x1, .int x2, .int x3, z4] [.int s0] w = if s0 ≤ nI 0 then p_ev scr 124 86 [.ref 24, .int x1, .int x2, .int x3, z4] [] w else p_ev scr 124 20 [.ref 24, .int x1, .int x2, .int x3, z4] [] w) ∧
  (∀ (scr : pX) (w : pW) (x1 : Int32) (x2 : Int32) (x3 : Int32) (z4 : Value), p_ev scr 124 20 [.ref 24, .int x1, .int x2, .int x3, z4] [] w = p_ev scr 124 23 [.ref 24, .int x1, .int x2, .int (x3 + (-1 : Int32)), z4] [] w) ∧
  (∀ (scr : pX) (w : pW) (x1 : Int32) (x2 : Int32) (x3 : Int32) (z4 : Value), p_ev scr 124 23 [.ref 24, .int x1, .int x2, .int x3, z4] [] w = p_ev scr 124 24 [.ref 24, .int x1, .int x2, .int x3, z4] [.ref 24] w) ∧
  (∀ (scr : pX) (w : pW) (x1 : Int32) (x2 : Int32) (x3 : Int32) (z4 : Value), p_ev scr 124 24 [.ref 24, .int x1, .int x2, .int x3, z4] [.ref 24] w = p_ev scr 124 27 [.ref 24, .int x1, .int x2, .int x3, z4] [.ref 31] w) ∧
  (∀ (scr : pX) (w : pW) (x1 : Int32) (x2 : Int32) (x3 : Int32) (z4 : Value), p_ev scr 124 27 [.ref 24, .int x1, .int x2, .int x3, z4] [.ref 31] w = p_ev scr 124 28 [.ref 24, .int x1, .int x2, .int x3, z4] [.int x3, .ref 31] w) ∧
  (∀ (scr : pX) (w : pW) (x1 : Int32) (x2 : Int32) (x3 : Int32) (z4 : Value) (s0 : Int32), p_out s0 16 = false → p_ev scr 124 28 [.ref 24, .int x1, .int x2, .int x3, z4] [.int s0, .ref 31] w = p_ev scr 124 29 [.ref 24, .int x1, .int x2, .int x3, z4] [.int (w.2.2 31 s0.toNatClampNeg)] w) ∧
  (∀ (scr : pX) (w : pW) (x1 : Int32) (x2 : Int32) (x3 : Int32) (z4 : Value) (s0 : Int32), p_ev scr 124 29 [.ref 24, .int x1, .int x2, .int x3, z4] [.int s0] w = p_ev scr 124 31 [.ref 24, .int x1, .int x2, .int x3, .int s0] [] w) ∧
  (∀ (scr : pX) (w : pW) (x1 : Int32) (x2 : Int32) (x3 : Int32) (x4 : Int32), p_ev scr 124 31 [.ref 24, .int x1, .int x2, .int x3, .int x4] [] w = p_ev scr 124 32 [.ref 24, .int x1, .int x2, .int x3, .int x4] [.ref 24] w) ∧
  (∀ (scr : pX) (w : pW) (x1 : Int32) (x2 : Int32) (x3 : Int32) (x4 : Int32), p_ev scr 124 32 [.ref 24, .int x1, .int x2, .int x3, .int x4] [.ref 24] w = p_ev scr 124 35 [.ref 24, .int x1, .int x2, .int x3, .int x4] [.ref 25] w) ∧
  (∀ (scr : pX) (w : pW) (x1 : Int32) (x2 : Int32) (x3 : Int32) (x4 : Int32), p_ev scr 124 35 [.ref 24, .int x1, .int x2, .int x3, .int x4] [.ref 25] w = p_ev scr 124 37 [.ref 24, .int x1, .int x2, .int x3, .int x4] [.int x4, .ref 25] w) ∧
  (∀ (scr : pX) (w : pW) (x1 : Int32) (x2 : Int32) (x3 : Int32) (x4 : Int32) (s0 : Int32), p_out s0 16 = false → p_ev scr 124 37 [.ref 24, .int x1, .int x2, .int x3, .int x4] [.int s0, .ref 25] w = p_ev scr 124 38 [.ref 24, .int x1, .int x2, .int x3, .int x4] [.int (w.2.2 25 s0.toNatClampNeg)] w) ∧
  (∀ (scr : pX) (w : pW) (x1 : Int32) (x2 : Int32) (x3 : Int32) (x4 : Int32) (s0 : Int32), p_ev scr 124 38 [.ref 24, .int x1, .int x2, .int x3, .int x4] [.int s0] w = p_ev scr 124 39 [.ref 24, .int x1, .int x2, .int x3, .int x4] [.int (nI 1), .int s0] w) ∧
  (∀ (scr : pX) (w : pW) (x1 : Int32) (x2 : Int32) (x3 : Int32) (x4 : Int32) (s0 : Int32) (s1 : Int32), p_ev scr 124 39 [.ref 24, .int x1, .int x2, .int x3, .int x4] [.int s0, .int s1] w = if ¬ s1 = s0 then p_ev scr 124 56 [.ref 24, .int x1, .int x2, .int x3, .int x4] [] w else p_ev scr 124 42 [.ref 24, .int x1, .int x2, .int x3, .int x4] [] w) ∧
  (∀ (scr : pX) (w : pW) (x1 : Int32) (x2 : Int32) (x3 : Int32) (x4 : Int32), p_ev scr 124 42 [.ref 24, .int x1, .int x2, .int x3, .int x4] [] w = p_ev scr 124 43 [.ref 24, .int x1, .int x2, .int x3, .int x4] [.int x2] w) ∧
  (∀ (scr : pX) (w : pW) (x1 : Int32) (x2 : Int32) (x3 : Int32) (x4 : Int32) (s0 : Int32), p_ev scr 124 43 [.ref 24, .int x1, .int x2, .int x3, .int x4] [.int s0] w = p_ev scr 124 44 [.ref 24, .int x1, .int x2, .int x3, .int x4] [.int x1, .int s0] w) ∧
  (∀ (scr : pX) (w : pW) (x1 : Int32) (x2 : Int32) (x3 : Int32) (x4 : Int32) (s0 : Int32) (s1 : Int32), p_ev scr 124 44 [.ref 24, .int x1, .int x2, .int x3, .int x4] [.int s0, .int s1] w = if ¬ s1 = s0 then p_ev scr 124 50 [.ref 24, .int x1, .int x2, .int x3, .int x4] [] w else p_ev scr 124 47 [.ref 24, .int x1, .int x2, .int x3, .int x4] [] w) ∧
  (∀ (scr : pX) (w : pW) (x1 : Int32) (x2 : Int32) (x3 : Int32) (x4 : Int32), p_ev scr 124 47 [.ref 24, .int x1, .int x2, .int x3, .int x4] [] w = p_ev scr 124 49 [.ref 24, .int x1, .int x2, .int x3, .int x4] [.int x4] w) ∧
  (∀ (scr : pX) (w : pW) (x1 : Int32) (x2 : Int32) (x3 : Int32) (x4 : Int32) (s0 : Int32), p_ev scr 124 49 [.ref 24, .int x1, .int x2, .int x3, .int x4] [.int s0] w = some (.inl (some (.int s0)), w, 0)) ∧
  (∀ (scr : pX) (w : pW) (x1 : Int32) (x2 : Int32) (x3 : Int32) (x4 : Int32), p_ev scr 124 50 [.ref 24, .int x1, .int x2, .int x3, .int x4] [] w = p_ev scr 124 53 [.ref 24, .int x1, .int (x2 + (nI 1)), .int x3, .int x4] [] w) ∧
  (∀ (scr : pX) (w : pW) (x1 : Int32) (x2 : Int32) (x3 : Int32) (x4 : Int32), p_ev scr 124 53 [.ref 24, .int x1, .int x2, .int x3, .int x4] [] w = p_ev scr 124 83 [.ref 24, .int x1, .int x2, .int x3, .int x4] [] w) ∧
  (∀ (scr : pX) (w : pW) (x1 : Int32) (x2 : Int32) (x3 : Int32) (x4 : Int32), p_ev scr 124 56 [.ref 24, .int x1, .int x2, .int x3, .int x4] [] w = p_ev scr 124 57 [.ref 24, .int x1, .int x2, .int x3, .int x4] [.ref 24] w) ∧
  (∀ (scr : pX) (w : pW) (x1 : Int32) (x2 : Int32) (x3 : Int32) (x4 : Int32), p_ev scr 124 57 [.ref 24, .int x1, .int x2, .int x3, .int x4] [.ref 24] w = p_ev scr 124 60 [.ref 24, .int x1, .int x2, .int x3, .int x4] [.ref 31] w) ∧
  (∀ (scr : pX) (w : pW) (x1 : Int32) (x2 : Int32) (x3 : Int32) (x4 : Int32), p_ev scr 124 60 [.ref 24, .int x1, .int x2, .int x3, .int x4] [.ref 31] w = p_ev scr 124 61 [.ref 24, .int x1, .int x2, .int x3, .int x4] [.int x3, .ref 31] w) ∧
  (∀ (scr : pX) (w : pW) (x1 : Int32) (x2 : Int32) (x3 : Int32) (x4 : Int32) (s0 : Int32), p_ev scr 124 61 [.ref 24, .int x1, .int x2, .int x3, .int x4] [.int s0, .ref 31] w = p_ev scr 124 62 [.ref 24, .int x1, .int x2, .int x3, .int x4] [.int (nI 2), .int s0, .ref 31] w) ∧
  (∀ (scr : pX) (w : pW) (x1 : Int32) (x2 : Int32) (x3 : Int32) (x4 : Int32) (s0 : Int32) (s1 : Int32), p_ev scr 124 62 [.ref 24, .int x1, .int x2, .int x3, .int x4] [.int s0, .int s1, .ref 31] w = p_ev scr 124 64 [.ref 24, .int x1, .int x2, .int x3, .int x4] [.int x4, .int s0, .int s1, .ref 31] w) ∧
  (∀ (scr : pX) (w : pW) (x1 : Int32) (x2 : Int32) (x3 : Int32) (x4 : Int32) (s0 : Int32) (s1 : Int32) (s2 : Int32), p_ev scr 124 64 [.ref 24, .int x1, .int x2, .int x3, .int x4] [.int s0, .int s1, .int s2, .ref 31] w = p_ev scr 124 65 [.ref 24, .int x1, .int x2, .int x3, .int x4] [.int (s1 * s0), .int s2, .ref 31] w) ∧
  (∀ (scr : pX) (w : pW) (x1 : Int32) (x2 : Int32) (x3 : Int32) (x4 : Int32) (s0 : Int32) (s1 : Int32), p_ev scr 124 65 [.ref 24, .int x1, .int x2, .int x3, .int x4] [.int s0, .int s1, .ref 31] w = p_ev scr 124 66 [.ref 24, .int x1, .int x2, .int x3, .int x4] [.int (nI 1), .int s0, .int s1, .ref 31] w) ∧
  (∀ (scr : pX) (w : pW) (x1 : Int32) (x2 : Int32) (x3 : Int32) (x4 : Int32) (s0 : Int32) (s1 : Int32) (s2 : Int32), p_ev scr 124 66 [.ref 24, .int x1, .int x2, .int x3, .int x4] [.int s0, .int s1, .int s2, .ref 31] w = p_ev scr 124 67 [.ref 24, .int x1, .int x2, .int x3, .int x4] [.int (s1 + s0), .int s2, .ref 31] w) ∧
  (∀ (scr : pX) (w : pW) (x1 : Int32) (x2 : Int32) (x3 : Int32) (x4 : Int32) (s0 : Int32) (s1 : Int32), p_out s1 16 = false → p_ev scr 124 67 [.ref 24, .int x1, .int x2, .int x3, .int x4] [.int s0, .int s1, .ref 31] w = p_ev scr 124 68 [.ref 24, .int x1, .int x2, .int x3, .int x4] [] (w.1, w.2.1, p_u w.2.2 31 s1.toNatClampNeg s0)) ∧
  (∀ (scr : pX) (w : pW) (x1 : Int32) (x2 : Int32) (x3 : Int32) (x4 : Int32), p_ev scr 124 68 [.ref 24, .int x1, .int x2, .int x3, .int x4] [] w = p_ev scr 124 69 [.ref 24, .int x1, .int x2, .int x3, .int x4] [.ref 24] w) ∧
  (∀ (scr : pX) (w : pW) (x1 : Int32) (x2 : Int32) (x3 : Int32) (x4 : Int32), p_ev scr 124 69 [.ref 24, .int x1, .int x2, .int x3, .int x4] [.ref 24] w = p_ev scr 124 72 [.ref 24, .int x1, .int x2, .int x3, .int x4] [.ref 31] w) ∧
  (∀ (scr : pX) (w : pW) (x1 : Int32) (x2 : Int32) (x3 : Int32) (x4 : Int32), p_ev scr 124 72 [.ref 24, .int x1, .int x2, .int x3, .int x4] [.ref 31] w = p_ev scr 124 73 [.ref 24, .int x1, .int x2, .int x3, .int x4] [.int x3, .ref 31] w) ∧
  (∀ (scr : pX) (w : pW) (x1 : Int32) (x2 : Int32) (x3 : Int32) (x4 : Int32) (s0 : Int32), p_ev scr 124 73 [.ref 24, .int x1, .int x2, .int x3, .int x4] [.int s0, .ref 31] w = p_ev scr 124 74 [.ref 24, .int x1, .int x2, .int x3, .int x4] [.int (nI 1), .int s0, .ref 31] w) ∧
  (∀ (scr : pX) (w : pW) (x1 : Int32) (x2 : Int32) (x3 : Int32) (x4 : Int32) (s0 : Int32) (s1 : Int32), p_ev scr 124 74 [.ref 24, .int x1, .int x2, .int x3, .int x4] [.int s0, .int s1, .ref 31] w = p_ev scr 124 75 [.ref 24, .int x1, .int x2, .int x3, .int x4] [.int (s1 + s0), .ref 31] w) ∧
  (∀ (scr : pX) (w : pW) (x1 : Int32) (x2 : Int32) (x3 : Int32) (x4 : Int32) (s0 : Int32), p_ev scr 124 75 [.ref 24, .int x1, .int x2, .int x3, .int x4] [.int s0, .ref 31] w = p_ev scr 124 76 [.ref 24, .int x1, .int x2, .int x3, .int x4] [.int (nI 2), .int s0, .ref 31] w) ∧
  (∀ (scr : pX) (w : pW) (x1 : Int32) (x2 : Int32) (x3 : Int32) (x4 : Int32) (s0 : Int32) (s1 : Int32), p_ev scr 124 76 [.ref 24, .int x1, .int x2, .int x3, .int x4] [.int s0, .int s1, .ref 31] w = p_ev scr 124 78 [.ref 24, .int x1, .int x2, .int x3, .int x4] [.int x4, .int s0, .int s1, .ref 31] w) ∧
  (∀ (scr : pX) (w : pW) (x1 : Int32) (x2 : Int32) (x3 : Int32) (x4 : Int32) (s0 : Int32) (s1 : Int32) (s2 : Int32), p_ev scr 124 78 [.ref 24, .int x1, .int x2, .int x3, .int x4] [.int s0, .int s1, .int s2, .ref 31] w = p_ev scr 124 79 [.ref 24, .int x1, .int x2, .int x3, .int x4] [.int (s1 * s0), .int s2, .ref 31] w) ∧
  (∀ (scr : pX) (w : pW) (x1 : Int32) (x2 : Int32) (x3 : Int32) (x4 : Int32) (s0 : Int32) (s1 : Int32), p_out s1 16 = false → p_ev scr 124 79 [.ref 24, .int x1, .int x2, .int x3, .int x4] [.int s0, .int s1, .ref 31] w = p_ev scr 124 80 [.ref 24, .int x1, .int x2, .int x3, .int x4] [] (w.1, w.2.1, p_u w.2.2 31 s1.toNatClampNeg s0)) ∧
  (∀ (scr : pX) (w : pW) (x1 : Int32) (x2 : Int32) (x3 : Int32) (x4 : Int32), p_ev scr 124 80 [.ref 24, .int x1, .int x2, .int x3, .int x4] [] w = p_ev scr 124 83 [.ref 24, .int x1, .int x2, .int (x3 + (nI 2)), .int x4] [] w) ∧
  (∀ (scr : pX) (w : pW) (x1 : Int32) (x2 : Int32) (x3 : Int32) (x4 : Int32), p_ev scr 124 83 [.ref 24, .int x1, .int x2, .int x3, .int x4] [] w = p_ev scr 124 16 [.ref 24, .int x1, .int x2, .int x3, .int x4] [] w) ∧
  (∀ (scr : pX) (w : pW) (x1 : Int32) (x2 : Int32) (x3 : Int32) (z4 : Value), p_ev scr 124 86 [.ref 24, .int x1, .int x2, .int x3, z4] [] w = p_ev scr 124 87 [.ref 24, .int x1, .int x2, .int x3, z4] [.ref 24] w) ∧
  (∀ (scr : pX) (w : pW) (x1 : Int32) (x2 : Int32) (x3 : Int32) (z4 : Value), p_ev scr 124 87 [.ref 24, .int x1, .int x2, .int x3, z4] [.ref 24] w = p_ev scr 124 88 [.ref 24, .int x1, .int x2, .int x3, z4] [.int (nI 1), .ref 24] w) ∧
  (∀ (scr : pX) (w : pW) (x1 : Int32) (x2 : Int32) (x3 : Int32) (z4 : Value) (s0 : Int32), p_ev scr 124 88 [.ref 24, .int x1, .int x2, .int x3, z4] [.int s0, .ref 24] w = p_bnd scr 124 88 91 [.ref 24, .int x1, .int x2, .int x3, z4] [] (p_ev none 96 0 [.ref 24, .int s0] [] w)) ∧
  (∀ (scr : pX) (w : pW) (x1 : Int32) (x2 : Int32) (x3 : Int32) (z4 : Value) (s0 : Int32), p_ev scr 124 91 [.ref 24, .int x1, .int x2, .int x3, z4] [.int s0] w = some (.inl (some (.int s0)), w, 0)) :=
  ⟨fun _ _ _ => p_r (by decide +kernel : p_at 124 0 = some (.aload_n 0)) rfl,
  fun _ _ _ => p_r (by decide +kernel : p_at 124 1 = some (.iconst 0)) rfl,
  fun _ _ _ _ => p_rpf (by decide +kernel : p_at 124 2 = some (.putfield 63)) (by decide +kernel : p_fld (p_own 124) 63 = some (5, 4)) (rfl : p_ob 24 = some (.inr (5, [some 25, some 26, none, none, none, some 27, some 28, some 29, some 30, some 31, some 32, some 33, some 34, some 35, some 36, some 37, some 38, some 39, none, none, some 40]))) rfl,
  fun _ _ _ => p_r (by decide +kernel : p_at 124 5 = some (.iconst 0)) rfl,
  fun _ _ _ _ => p_r (by decide +kernel : p_at 124 6 = some (.istore_n 2)) rfl,
  fun _ _ _ _ => p_r (by decide +kernel : p_at 124 7 = some (.iconst 1)) rfl,
  fun _ _ _ _ _ => p_r (by decide +kernel : p_at 124 8 = some (.istore_n 3)) rfl,
  fun _ _ _ _ _ => p_r (by decide +kernel : p_at 124 9 = some (.aload_n 0)) rfl,
  fun _ _ _ _ _ => p_rgf (f := some 31) (by decide +kernel : p_at 124 10 = some (.getfield 33)) (by decide +kernel : p_fld (p_own 124) 33 = some (5, 9)) (rfl : p_ob 24 = some (.inr (5, [some 25, some 26, none, none, none, some 27, some 28, some 29, some 30, some 31, some 32, some 33, some 34, some 35, some 36, some 37, some 38, some 39, none, none, some 40]))) rfl,
  fun _ _ _ _ _ => p_r (by decide +kernel : p_at 124 13 = some (.iconst 0)) rfl,
  fun _ _ _ _ _ _ => p_r (by decide +kernel : p_at 124 14 = some (.iconst 1)) rfl,
  fun _ _ _ _ _ _ _ hp => p_riast (by decide +kernel : p_at 124 15 = some (.iastore)) (rfl : p_ob 31 = some (.inl (1, 16))) hp,
  fun _ _ _ _ _ _ _ => p_rb1 (c := fun x => decide (x ≤ 0)) (off := 69) (by decide +kernel : p_at 124 17 = some (.ifCond .le 69)) (by decide +kernel) rfl rfl rfl,
  fun _ _ _ _ _ _ => p_r (by decide +kernel : p_at 124 20 = some (.iinc 3 (-1))) rfl,
  fun _ _ _ _ _ _ => p_r (by decide +kernel : p_at 124 23 = some (.aload_n 0)) rfl,
  fun _ _ _ _ _ _ => p_rgf (f := some 31) (by decide +kernel : p_at 124 24 = some (.getfield 33)) (by decide +kernel : p_fld (p_own 124) 33 = some (5, 9)) (rfl : p_ob 24 = some (.inr (5, [some 25, some 26, none, none, none, some 27, some 28, some 29, some 30, some 31, some 32, some 33, some 34, some 35, some 36, some 37, some 38, some 39, none, none, some 40]))) rfl,
  fun _ _ _ _ _ _ => p_r (by decide +kernel : p_at 124 27 = some (.iload_n 3)) rfl,
  fun _ _ _ _ _ _ _ hp => p_riald (by decide +kernel : p_at 124 28 = some (.iaload)) (rfl : p_ob 31 = some (.inl (1, 16))) hp,
  fun _ _ _ _ _ _ _ => p_r (by decide +kernel : p_at 124 29 = some (.istore 4)) rfl,
  fun _ _ _ _ _ _ => p_r (by decide +kernel : p_at 124 31 = some (.aload_n 0)) rfl,
  fun _ _ _ _ _ _ => p_rgf (f := some 25) (by decide +kernel : p_at 124 32 = some (.getfield 7)) (by decide +kernel : p_fld (p_own 124) 7 = some (5, 0)) (rfl : p_ob 24 = some (.inr (5, [some 25, some 26, none, none, none, some 27, some 28, some 29, some 30, some 31, some 32, some 33, some 34, some 35, some 36, some 37, some 38, some 39, none, none, some 40]))) rfl,
  fun _ _ _ _ _ _ => p_r (by decide +kernel : p_at 124 35 = some (.iload 4)) rfl,
  fun _ _ _ _ _ _ _ hp => p_riald (by decide +kernel : p_at 124 37 = some (.iaload)) (rfl : p_ob 25 = some (.inl (1, 16))) hp,
  fun _ _ _ _ _ _ _ => p_r (by decide +kernel : p_at 124 38 = some (.iconst 1)) rfl,
  fun _ _ _ _ _ _ _ _ => p_rb2 (c := fun x y => decide (¬ x = y)) (off := 17) (by decide +kernel : p_at 124 39 = some (.if_icmp .ne 17)) (by decide +kernel) rfl rfl rfl,
  fun _ _ _ _ _ _ => p_r (by decide +kernel : p_at 124 42 = some (.iload_n 2)) rfl,
  fun _ _ _ _ _ _ _ => p_r (by decide +kernel : p_at 124 43 = some (.iload_n 1)) rfl,
  fun _ _ _ _ _ _ _ _ => p_rb2 (c := fun x y => decide (¬ x = y)) (off := 6) (by decide +kernel : p_at 124 44 = some (.if_icmp .ne 6)) (by decide +kernel) rfl rfl rfl,
  fun _ _ _ _ _ _ => p_r (by decide +kernel : p_at 124 47 = some (.iload 4)) rfl,
  fun _ _ _ _ _ _ _ => p_riret (by decide +kernel : p_at 124 49 = some (.ireturn)) (by decide +kernel),
  fun _ _ _ _ _ _ => p_r (by decide +kernel : p_at 124 50 = some (.iinc 2 1)) rfl,
  fun _ _ _ _ _ _ => p_rgo (by decide +kernel : p_at 124 53 = some (.goto 30)) (by decide +kernel),
  fun _ _ _ _ _ _ => p_r (by decide +kernel : p_at 124 56 = some (.aload_n 0)) rfl,
  fun _ _ _ _ _ _ => p_rgf (f := some 31) (by decide +kernel : p_at 124 57 = some (.getfield 33)) (by decide +kernel : p_fld (p_own 124) 33 = some (5, 9)) (rfl : p_ob 24 = some (.inr (5, [some 25, some 26, none, none, none, some 27, some 28, some 29, some 30, some 31, some 32, some 33, some 34, some 35, some 36, some 37, some 38, some 39, none, none, some 40]))) rfl,
  fun _ _ _ _ _ _ => p_r (by decide +kernel : p_at 124 60 = some (.iload_n 3)) rfl,
  fun _ _ _ _ _ _ _ => p_r (by decide +kernel : p_at 124 61 = some (.iconst 2)) rfl,
  fun _ _ _ _ _ _ _ _ => p_r (by decide +kernel : p_at 124 62 = some (.iload 4)) rfl,
  fun _ _ _ _ _ _ _ _ _ => p_r (by decide +kernel : p_at 124 64 = some (.imul)) rfl,
  fun _ _ _ _ _ _ _ _ => p_r (by decide +kernel : p_at 124 65 = some (.iconst 1)) rfl,
  fun _ _ _ _ _ _ _ _ _ => p_r (by decide +kernel : p_at 124 66 = some (.iadd)) rfl,
  fun _ _ _ _ _ _ _ _ hp => p_riast (by decide +kernel : p_at 124 67 = some (.iastore)) (rfl : p_ob 31 = some (.inl (1, 16))) hp,
  fun _ _ _ _ _ _ => p_r (by decide +kernel : p_at 124 68 = some (.aload_n 0)) rfl,
  fun _ _ _ _ _ _ => p_rgf (f := some 31) (by decide +kernel : p_at 124 69 = some (.getfield 33)) (by decide +kernel : p_fld (p_own 124) 33 = some (5, 9)) (rfl : p_ob 24 = some (.inr (5, [some 25, some 26, none, none, none, some 27, some 28, some 29, some 30, some 31, some 32, some 33, some 34, some 35, some 36, some 37, some 38, some 39, none, none, some 40]))) rfl,
  fun _ _ _ _ _ _ => p_r (by decide +kernel : p_at 124 72 = some (.iload_n 3)) rfl,
  fun _ _ _ _ _ _ _ => p_r (by decide +kernel : p_at 124 73 = some (.iconst 1)) rfl,
  fun _ _ _ _ _ _ _ _ => p_r (by decide +kernel : p_at 124 74 = some (.iadd)) rfl,
  fun _ _ _ _ _ _ _ => p_r (by decide +kernel : p_at 124 75 = some (.iconst 2)) rfl,
  fun _ _ _ _ _ _ _ _ => p_r (by decide +kernel : p_at 124 76 = some (.iload 4)) rfl,
  fun _ _ _ _ _ _ _ _ _ => p_r (by decide +kernel : p_at 124 78 = some (.imul)) rfl,
  fun _ _ _ _ _ _ _ _ hp => p_riast (by decide +kernel : p_at 124 79 = some (.iastore)) (rfl : p_ob 31 = some (.inl (1, 16))) hp,
  fun _ _ _ _ _ _ => p_r (by decide +kernel : p_at 124 80 = some (.iinc 3 2)) rfl,
  fun _ _ _ _ _ _ => p_rgo (by decide +kernel : p_at 124 83 = some (.goto (-67))) (by decide +kernel),
  fun _ _ _ _ _ _ => p_r (by decide +kernel : p_at 124 86 = some (.aload_n 0)) rfl,
  fun _ _ _ _ _ _ => p_r (by decide +kernel : p_at 124 87 = some (.iconst 1)) rfl,
  fun _ _ _ _ _ _ _ => p_rcv (nl := 2) (by decide +kernel : p_at 124 88 = some (.invokevirtual 76)) (by decide +kernel : p_inv (p_own 124) 76 = some (1, 96, 2)) (by decide +kernel) (rfl : p_ob 24 = some (.inr (5, [some 25, some 26, none, none, none, some 27, some 28, some 29, some 30, some 31, some 32, some 33, some 34, some 35, some 36, some 37, some 38, some 39, none, none, some 40]))) rfl rfl (Nat.le_of_ble_eq_true rfl) (Nat.le_of_ble_eq_true rfl) (Nat.le_of_ble_eq_true rfl) rfl,
  fun _ _ _ _ _ _ _ => p_riret (by decide +kernel : p_at 124 91 = some (.ireturn)) (by decide +kernel)⟩
theorem H124_16 :
  (∀ (scr : pX) (w : pW) (x1 : Int32) (x2 : Int32) (x3 : Int32) (z4 : Value), p_ev scr 124 16 [.ref 24, .int x1, .int x2, .int x3, z4] [] w = p_ev scr 124 17 [.ref 24, .int x1, .int x2, .int x3, z4] [.int x3] w) :=
  fun _ _ _ _ _ _ => p_r (by decide +kernel : p_at 124 16 = some (.iload_n 3)) rfl
-- 125: costIn
theorem M125 (a : Nat) (ha : p_lg a) :
  (∀ (scr : pX) (w : pW) (x2 : Int32), p_ev scr 125 0 [.ref 24, .ref a, .int x2, p_U, p_U] [] w = p_ev scr 125 1 [.ref 24, .ref a, .int x2, p_U, p_U] [.int (nI 0)] w) ∧
  (∀ (scr : pX) (w : pW) (x2 : Int32) (s0 : Int32), p_ev scr 125 1 [.ref 24, .ref a, .int x2, p_U, p_U] [.int s0] w = p_ev scr 125 2 [.ref 24, .ref a, .int x2, .int s0, p_U] [] w) ∧
  (∀ (scr : pX) (w : pW) (x2 : Int32) (x3 : Int32), p_ev scr 125 2 [.ref 24, .ref a, .int x2, .int x3, p_U] [] w = p_ev scr 125 3 [.ref 24, .ref a, .int x2, .int x3, p_U] [.int (nI 0)] w) ∧
  (∀ (scr : pX) (w : pW) (x2 : Int32) (x3 : Int32) (s0 : Int32), p_ev scr 125 3 [.ref 24, .ref a, .int x2, .int x3, p_U] [.int s0] w = p_ev scr 125 5 [.ref 24, .ref a, .int x2, .int x3, .int s0] [] w) ∧
  (∀ (scr : pX) (w : pW) (x2 : Int32) (x3 : Int32) (x4 : Int32) (s0 : Int32), p_ev scr 125 7 [.ref 24, .ref a, .int x2, .int x3, .int x4] [.int s0] w = p_ev scr 125 8 [.ref 24, .ref a, .int x2, .int x3, .int x4] [.ref 24, .int s0] w) ∧
  (∀ (scr : pX) (w : pW) (x2 : Int32) (x3 : Int32) (x4 : Int32) (s1 : Int32), p_ev scr 125 8 [.ref 24, .ref a, .int x2, .int x3, .int x4] [.ref 24, .int s1] w = p_ev scr 125 9 [.ref 24, .ref a, .int x2, .int x3, .int x4] [.int x2, .ref 24, .int s1] w) ∧
  (∀ (scr : pX) (w : pW) (x2 : Int32) (x3 : Int32) (x4 : Int32) (s0 : Int32) (s2 : Int32), p_ev scr 125 9 [.ref 24, .ref a, .int x2, .int x3, .int x4] [.int s0, .ref 24, .int s2] w = p_bnd scr 125 9 12 [.ref 24, .ref a, .int x2, .int x3, .int x4] [.int s2] (p_ev none 101 0 [.ref 24, .int s0, p_U, p_U] [] w)) ∧
  (∀ (scr : pX) (w : pW) (x2 : Int32) (x3 : Int32) (x4 : Int32) (s0 : Int32) (s1 : Int32), p_ev scr 125 12 [.ref 24, .ref a, .int x2, .int x3, .int x4] [.int s0, .int s1] w = if s0 ≤ s1 then p_ev scr 125 36 [.ref 24, .ref a, .int x2, .int x3, .int x4] [] w else p_ev scr 125 15 [.ref 24, .ref a, .int x2, .int x3, .int x4] [] w) ∧
  (∀ (scr : pX) (w : pW) (x2 : Int32) (x3 : Int32) (x4 : Int32), p_ev scr 125 15 [.ref 24, .ref a, .int x2, .int x3, .int x4] [] w = p_ev scr 125 16 [.ref 24, .ref a, .int x2, .int x3, .int x4] [.int x3] w) ∧
  (∀ (scr : pX) (w : pW) (x2 : Int32) (x3 : Int32) (x4 : Int32) (s0 : Int32), p_ev scr 125 16 [.ref 24, .ref a, .int x2, .int x3, .int x4] [.int s0] w = p_ev scr 125 17 [.ref 24, .ref a, .int x2, .int x3, .int x4] [.ref a, .int s0] w) ∧
  (∀ (scr : pX) (w : pW) (x2 : Int32) (x3 : Int32) (x4 : Int32) (s1 : Int32), p_ev scr 125 17 [.ref 24, .ref a, .int x2, .int x3, .int x4] [.ref a, .int s1] w = p_ev scr 125 19 [.ref 24, .ref a, .int x2, .int x3, .int x4] [.int (nI 32), .ref a, .int s1] w) ∧
  (∀ (scr : pX) (w : pW) (x2 : Int32) (x3 : Int32) (x4 : Int32) (s0 : Int32) (s2 : Int32), p_ev scr 125 19 [.ref 24, .ref a, .int x2, .int x3, .int x4] [.int s0, .ref a, .int s2] w = p_ev scr 125 20 [.ref 24, .ref a, .int x2, .int x3, .int x4] [.int x2, .int s0, .ref a, .int s2] w) ∧
  (∀ (scr : pX) (w : pW) (x2 : Int32) (x3 : Int32) (x4 : Int32) (s0 : Int32) (s1 : Int32) (s3 : Int32), p_ev scr 125 20 [.ref 24, .ref a, .int x2, .int x3, .int x4] [.int s0, .int s1, .ref a, .int s3] w = p_ev scr 125 21 [.ref 24, .ref a, .int x2, .int x3, .int x4] [.int (s1 * s0), .ref a, .int s3] w) ∧
  (∀ (scr : pX) (w : pW) (x2 : Int32) (x3 : Int32) (x4 : Int32) (s0 : Int32) (s2 : Int32), p_ev scr 125 21 [.ref 24, .ref a, .int x2, .int x3, .int x4] [.int s0, .ref a, .int s2] w = p_ev scr 125 23 [.ref 24, .ref a, .int x2, .int x3, .int x4] [.int x4, .int s0, .ref a, .int s2] w) ∧
  (∀ (scr : pX) (w : pW) (x2 : Int32) (x3 : Int32) (x4 : Int32) (s0 : Int32) (s1 : Int32) (s3 : Int32), p_ev scr 125 23 [.ref 24, .ref a, .int x2, .int x3, .int x4] [.int s0, .int s1, .ref a, .int s3] w = p_ev scr 125 24 [.ref 24, .ref a, .int x2, .int x3, .int x4] [.int (s1 + s0), .ref a, .int s3] w) ∧
  (∀ (scr : pX) (w : pW) (x2 : Int32) (x3 : Int32) (x4 : Int32) (s0 : Int32) (s2 : Int32), p_out s0 512 = false → p_ev scr 125 24 [.ref 24, .ref a, .int x2, .int x3, .int x4] [.int s0, .ref a, .int s2] w = p_ev scr 125 25 [.ref 24, .ref a, .int x2, .int x3, .int x4] [.long (w.2.1 a s0.toNatClampNeg), .int s2] w) ∧
  (∀ (scr : pX) (w : pW) (x2 : Int32) (x3 : Int32) (x4 : Int32) (t0 : Int64) (s1 : Int32), p_ev scr 125 25 [.ref 24, .ref a, .int x2, .int x3, .int x4] [.long t0, .int s1] w = p_bnd scr 125 25 28 [.ref 24, .ref a, .int x2, .int x3, .int x4] [.int s1] (p_ev none 100 0 [.long t0, p_U, p_U, p_U, p_U] [] w)) ∧
  (∀ (scr : pX) (w : pW) (x2 : Int32) (x3 : Int32) (x4 : Int32) (s0 : Int32) (s1 : Int32), p_ev scr 125 28 [.ref 24, .ref a, .int x2, .int x3, .int x4] [.int s0, .int s1] w = p_ev scr 125 29 [.ref 24, .ref a, .int x2, .int x3, .int x4] [.int (s1 + s0)] w) ∧
  (∀ (scr : pX) (w : pW) (x2 : Int32) (x3 : Int32) (x4 : Int32) (s0 : Int32), p_ev scr 125 29 [.ref 24, .ref a, .int x2, .int x3, .int x4] [.int s0] w = p_ev scr 125 30 [.ref 24, .ref a, .int x2, .int s0, .int x4] [] w) ∧
  (∀ (scr : pX) (w : pW) (x2 : Int32) (x3 : Int32) (x4 : Int32), p_ev scr 125 30 [.ref 24, .ref a, .int x2, .int x3, .int x4] [] w = p_ev scr 125 33 [.ref 24, .ref a, .int x2, .int x3, .int (x4 + (nI 1))] [] w) ∧
  (∀ (scr : pX) (w : pW) (x2 : Int32) (x3 : Int32) (x4 : Int32), p_ev scr 125 33 [.ref 24, .ref a, .int x2, .int x3, .int x4] [] w = p_ev scr 125 5 [.ref 24, .ref a, .int x2, .int x3, .int x4] [] w) ∧
  (∀ (scr : pX) (w : pW) (x2 : Int32) (x3 : Int32) (x4 : Int32), p_ev scr 125 36 [.ref 24, .ref a, .int x2, .int x3, .int x4] [] w = p_ev scr 125 37 [.ref 24, .ref a, .int x2, .int x3, .int x4] [.int x3] w) ∧
  (∀ (scr : pX) (w : pW) (x2 : Int32) (x3 : Int32) (x4 : Int32) (s0 : Int32), p_ev scr 125 37 [.ref 24, .ref a, .int x2, .int x3, .int x4] [.int s0] w = some (.inl (some (.int s0)), w, 0)) :=
  ⟨fun _ _ _ => p_r (by decide +kernel : p_at 125 0 = some (.iconst 0)) rfl,
  fun _ _ _ _ => p_r (by decide +kernel : p_at 125 1 = some (.istore_n 3)) rfl,
  fun _ _ _ _ => p_r (by decide +kernel : p_at 125 2 = some (.iconst 0)) rfl,
  fun _ _ _ _ _ => p_r (by decide +kernel : p_at 125 3 = some (.istore 4)) rfl,
  fun _ _ _ _ _ _ => p_r (by decide +kernel : p_at 125 7 = some (.aload_n 0)) rfl,
  fun _ _ _ _ _ _ => p_r (by decide +kernel : p_at 125 8 = some (.iload_n 2)) rfl,
  fun _ _ _ _ _ _ _ => p_rcv (nl := 4) (by decide +kernel : p_at 125 9 = some (.invokevirtual 113)) (by decide +kernel : p_inv (p_own 125) 113 = some (1, 101, 2)) (by decide +kernel) (rfl : p_ob 24 = some (.inr (5, [some 25, some 26, none, none, none, some 27, some 28, some 29, some 30, some 31, some 32, some 33, some 34, some 35, some 36, some 37, some 38, some 39, none, none, some 40]))) rfl rfl (Nat.le_of_ble_eq_true rfl) (Nat.le_of_ble_eq_true rfl) (Nat.le_of_ble_eq_true rfl) rfl,
  fun _ _ _ _ _ _ _ => p_rb2 (c := fun x y => decide (y ≤ x)) (off := 24) (by decide +kernel : p_at 125 12 = some (.if_icmp .ge 24)) (by decide +kernel) rfl rfl rfl,
  fun _ _ _ _ _ => p_r (by decide +kernel : p_at 125 15 = some (.iload_n 3)) rfl,
  fun _ _ _ _ _ _ => p_r (by decide +kernel : p_at 125 16 = some (.aload_n 1)) rfl,
  fun _ _ _ _ _ _ => p_r (by decide +kernel : p_at 125 17 = some (.bipush 32)) rfl,
  fun _ _ _ _ _ _ _ => p_r (by decide +kernel : p_at 125 19 = some (.iload_n 2)) rfl,
  fun _ _ _ _ _ _ _ _ => p_r (by decide +kernel : p_at 125 20 = some (.imul)) rfl,
  fun _ _ _ _ _ _ _ => p_r (by decide +kernel : p_at 125 21 = some (.iload 4)) rfl,
  fun _ _ _ _ _ _ _ _ => p_r (by decide +kernel : p_at 125 23 = some (.iadd)) rfl,
  fun _ _ _ _ _ _ _ hp => p_rlald (by decide +kernel : p_at 125 24 = some (.laload)) ha hp,
  fun _ _ _ _ _ _ _ => p_rcs (nl := 5) (by decide +kernel : p_at 125 25 = some (.invokestatic 149)) (by decide +kernel : p_inv (p_own 125) 149 = some (1, 100, 1)) (by decide +kernel) rfl rfl (Nat.le_of_ble_eq_true rfl) (Nat.le_of_ble_eq_true rfl) (Nat.le_of_ble_eq_true rfl) rfl,
  fun _ _ _ _ _ _ _ => p_r (by decide +kernel : p_at 125 28 = some (.iadd)) rfl,
  fun _ _ _ _ _ _ => p_r (by decide +kernel : p_at 125 29 = some (.istore_n 3)) rfl,
  fun _ _ _ _ _ => p_r (by decide +kernel : p_at 125 30 = some (.iinc 4 1)) rfl,
  fun _ _ _ _ _ => p_rgo (by decide +kernel : p_at 125 33 = some (.goto (-28))) (by decide +kernel),
  fun _ _ _ _ _ => p_r (by decide +kernel : p_at 125 36 = some (.iload_n 3)) rfl,
  fun _ _ _ _ _ _ => p_riret (by decide +kernel : p_at 125 37 = some (.ireturn)) (by decide +kernel)⟩
theorem H125_5 (a : Nat) (ha : p_lg a) :
  (∀ (scr : pX) (w : pW) (x2 : Int32) (x3 : Int32) (x4 : Int32), p_ev scr 125 5 [.ref 24, .ref a, .int x2, .int x3, .int x4] [] w = p_ev scr 125 7 [.ref 24, .ref a, .int x2, .int x3, .int x4] [.int x4] w) :=
  fun _ _ _ _ _ => p_r (by decide +kernel : p_at 125 5 = some (.iload 4)) rfl
-- 126: costBelow
theorem M126 :
  (∀ (scr : pX) (w : pW) (x1 : Int32), p_ev scr 126 0 [.ref 24, .int x1, p_U, p_U] [] w = p_ev scr 126 1 [.ref 24, .int x1, p_U, p_U] [.int (nI 0)] w) ∧
  (∀ (scr : pX) (w : pW) (x1 : Int32) (s0 : Int32), p_ev scr 126 1 [.ref 24, .int x1, p_U, p_U] [.int s0] w = p_ev scr 126 2 [.ref 24, .int x1, .int s0, p_U] [] w) ∧
  (∀ (scr : pX) (w : pW) (x1 : Int32) (x2 : Int32), p_ev scr 126 2 [.ref 24, .int x1, .int x2, p_U] [] w = p_ev scr 126 3 [.ref 24, .int x1, .int x2, p_U] [.int x1] w) ∧
  (∀ (scr : pX) (w : pW) (x1 : Int32) (x2 : Int32) (s0 : Int32), p_ev scr 126 3 [.ref 24, .int x1, .int x2, p_U] [.int s0] w = p_ev scr 126 4 [.ref 24, .int x1, .int x2, .int s0] [] w) ∧
  (∀ (scr : pX) (w : pW) (x1 : Int32) (x2 : Int32) (x3 : Int32) (s0 : Int32), p_ev scr 126 5 [.ref 24, .int x1, .int x2, .int x3] [.int s0] w = p_ev scr 126 7 [.ref 24, .int x1, .int x2, .int x3] [.int (nI 16), .int s0] w) ∧
  (∀ (scr : pX) (w : pW) (x1 : Int32) (x2 : Int32) (x3 : Int32) (s0 : Int32) (s1 : Int32), p_ev scr 126 7 [.ref 24, .int x1, .int x2, .int x3] [.int s0, .int s1] w = if s0 ≤ s1 then p_ev scr 126 51 [.ref 24, .int x1, .int x2, .int x3] [] w else p_ev scr 126 10 [.ref 24, .int x1, .int x2, .int x3] [] w) ∧
  (∀ (scr : pX) (w : pW) (x1 : Int32) (x2 : Int32) (x3 : Int32), p_ev scr 126 10 [.ref 24, .int x1, .int x2, .int x3] [] w = p_ev scr 126 11 [.ref 24, .int x1, .int x2, .int x3] [.int x2] w) ∧
  (∀ (scr : pX) (w : pW) (x1 : Int32) (x2 : Int32) (x3 : Int32) (s0 : Int32), p_ev scr 126 11 [.ref 24, .int x1, .int x2, .int x3] [.int s0] w = p_ev scr 126 12 [.ref 24, .int x1, .int x2, .int x3] [.ref 24, .int s0] w) ∧
  (∀ (scr : pX) (w : pW) (x1 : Int32) (x2 : Int32) (x3 : Int32) (s1 : Int32), p_ev scr 126 12 [.ref 24, .int x1, .int x2, .int x3] [.ref 24, .int s1] w = p_ev scr 126 15 [.ref 24, .int x1, .int x2, .int x3] [.ref 25, .int s1] w) ∧
  (∀ (scr : pX) (w : pW) (x1 : Int32) (x2 : Int32) (x3 : Int32) (s1 : Int32), p_ev scr 126 15 [.ref 24, .int x1, .int x2, .int x3] [.ref 25, .int s1] w = p_ev scr 126 16 [.ref 24, .int x1, .int x2, .int x3] [.int x3, .ref 25, .int s1] w) ∧
  (∀ (scr : pX) (w : pW) (x1 : Int32) (x2 : Int32) (x3 : Int32) (s0 : Int32) (s2 : Int32), p_out s0 16 = false → p_ev scr 126 16 [.ref 24, .int x1, .int x2, .int x3] [.int s0, .ref 25, .int s2] w = p_ev scr 126 17 [.ref 24, .int x1, .int x2, .int x3] [.int (w.2.2 25 s0.toNatClampNeg), .int s2] w) ∧
  (∀ (scr : pX) (w : pW) (x1 : Int32) (x2 : Int32) (x3 : Int32) (s0 : Int32) (s1 : Int32), p_ev scr 126 17 [.ref 24, .int x1, .int x2, .int x3] [.int s0, .int s1] w = p_ev scr 126 18 [.ref 24, .int x1, .int x2, .int x3] [.int (nI 1), .int s0, .int s1] w) ∧
  (∀ (scr : pX) (w : pW) (x1 : Int32) (x2 : Int32) (x3 : Int32) (s0 : Int32) (s1 : Int32) (s2 : Int32), p_ev scr 126 18 [.ref 24, .int x1, .int x2, .int x3] [.int s0, .int s1, .int s2] w = if ¬ s1 = s0 then p_ev scr 126 42 [.ref 24, .int x1, .int x2, .int x3] [.int s2] w else p_ev scr 126 21 [.ref 24, .int x1, .int x2, .int x3] [.int s2] w) ∧
  (∀ (scr : pX) (w : pW) (x1 : Int32) (x2 : Int32) (x3 : Int32) (s0 : Int32), p_ev scr 126 21 [.ref 24, .int x1, .int x2, .int x3] [.int s0] w = p_ev scr 126 22 [.ref 24, .int x1, .int x2, .int x3] [.ref 24, .int s0] w) ∧
  (∀ (scr : pX) (w : pW) (x1 : Int32) (x2 : Int32) (x3 : Int32) (s1 : Int32), p_ev scr 126 22 [.ref 24, .int x1, .int x2, .int x3] [.ref 24, .int s1] w = p_ev scr 126 23 [.ref 24, .int x1, .int x2, .int x3] [.int x3, .ref 24, .int s1] w) ∧
  (∀ (scr : pX) (w : pW) (x1 : Int32) (x2 : Int32) (x3 : Int32) (s0 : Int32) (s2 : Int32), p_ev scr 126 23 [.ref 24, .int x1, .int x2, .int x3] [.int s0, .ref 24, .int s2] w = p_ev scr 126 24 [.ref 24, .int x1, .int x2, .int x3] [.int x1, .int s0, .ref 24, .int s2] w) ∧
  (∀ (scr : pX) (w : pW) (x1 : Int32) (x2 : Int32) (x3 : Int32) (s0 : Int32) (s1 : Int32) (s3 : Int32), p_ev scr 126 24 [.ref 24, .int x1, .int x2, .int x3] [.int s0, .int s1, .ref 24, .int s3] w = p_bnd scr 126 24 27 [.ref 24, .int x1, .int x2, .int x3] [.int s3] (p_ev none 118 0 [.ref 24, .int s1, .int s0, p_U] [] w)) ∧
  (∀ (scr : pX) (w : pW) (x1 : Int32) (x2 : Int32) (x3 : Int32) (s0 : Int32) (s1 : Int32), p_ev scr 126 27 [.ref 24, .int x1, .int x2, .int x3] [.int s0, .int s1] w = if s0 = nI 0 then p_ev scr 126 42 [.ref 24, .int x1, .int x2, .int x3] [.int s1] w else p_ev scr 126 30 [.ref 24, .int x1, .int x2, .int x3] [.int s1] w) ∧
  (∀ (scr : pX) (w : pW) (x1 : Int32) (x2 : Int32) (x3 : Int32) (s0 : Int32), p_ev scr 126 30 [.ref 24, .int x1, .int x2, .int x3] [.int s0] w = p_ev scr 126 31 [.ref 24, .int x1, .int x2, .int x3] [.ref 24, .int s0] w) ∧
  (∀ (scr : pX) (w : pW) (x1 : Int32) (x2 : Int32) (x3 : Int32) (s1 : Int32), p_ev scr 126 31 [.ref 24, .int x1, .int x2, .int x3] [.ref 24, .int s1] w = p_ev scr 126 32 [.ref 24, .int x1, .int x2, .int x3] [.ref 24, .ref 24, .int s1] w) ∧
  (∀ (scr : pX) (w : pW) (x1 : Int32) (x2 : Int32) (x3 : Int32) (s2 : Int32), p_ev scr 126 32 [.ref 24, .int x1, .int x2, .int x3] [.ref 24, .ref 24, .int s2] w = p_ev scr 126 35 [.ref 24, .int x1, .int x2, .int x3] [.ref 26, .ref 24, .int s2] w) ∧
  (∀ (scr : pX) (w : pW) (x1 : Int32) (x2 : Int32) (x3 : Int32) (s2 : Int32), p_ev scr 126 35 [.ref 24, .int x1, .int x2, .int x3] [.ref 26, .ref 24, .int s2] w = p_ev scr 126 36 [.ref 24, .int x1, .int x2, .int x3] [.int x3, .ref 26, .ref 24, .int s2] w) ∧
  (∀ (scr : pX) (w : pW) (x1 : Int32) (x2 : Int32) (x3 : Int32) (s0 : Int32) (s3 : Int32), p_ev scr 126 36 [.ref 24, .int x1, .int x2, .int x3] [.int s0, .ref 26, .ref 24, .int s3] w = p_bnd scr 126 36 39 [.ref 24, .int x1, .int x2, .int x3] [.int s3] (p_ev none 125 0 [.ref 24, .ref 26, .int s0, p_U, p_U] [] w)) ∧
  (∀ (scr : pX) (w : pW) (x1 : Int32) (x2 : Int32) (x3 : Int32) (s0 : Int32) (s1 : Int32), p_ev scr 126 39 [.ref 24, .int x1, .int x2, .int x3] [.int s0, .int s1] w = p_ev scr 126 43 [.ref 24, .int x1, .int x2, .int x3] [.int s0, .int s1] w) ∧
  (∀ (scr : pX) (w : pW) (x1 : Int32) (x2 : Int32) (x3 : Int32) (s0 : Int32), p_ev scr 126 42 [.ref 24, .int x1, .int x2, .int x3] [.int s0] w = p_ev scr 126 43 [.ref 24, .int x1, .int x2, .int x3] [.int (nI 0), .int s0] w) ∧
  (∀ (scr : pX) (w : pW) (x1 : Int32) (x2 : Int32) (x3 : Int32) (s0 : Int32) (s1 : Int32), p_ev scr 126 43 [.ref 24, .int x1, .int x2, .int x3] [.int s0, .int s1] w = p_ev scr 126 44 [.ref 24, .int x1, .int x2, .int x3] [.int (s1 + s0)] w) ∧
  (∀ (scr : pX) (w : pW) (x1 : Int32) (x2 : Int32) (x3 : Int32) (s0 : Int32), p_ev scr 126 44 [.ref 24, .int x1, .int x2, .int x3] [.int s0] w = p_ev scr 126 45 [.ref 24, .int x1, .int s0, .int x3] [] w) ∧
  (∀ (scr : pX) (w : pW) (x1 : Int32) (x2 : Int32) (x3 : Int32), p_ev scr 126 45 [.ref 24, .int x1, .int x2, .int x3] [] w = p_ev scr 126 48 [.ref 24, .int x1, .int x2, .int (x3 + (nI 1))] [] w) ∧
  (∀ (scr : pX) (w : pW) (x1 : Int32) (x2 : Int32) (x3 : Int32), p_ev scr 126 48 [.ref 24, .int x1, .int x2, .int x3] [] w = p_ev scr 126 4 [.ref 24, .int x1, .int x2, .int x3] [] w) ∧
  (∀ (scr : pX) (w : pW) (x1 : Int32) (x2 : Int32) (x3 : Int32), p_ev scr 126 51 [.ref 24, .int x1, .int x2, .int x3] [] w = p_ev scr 126 52 [.ref 24, .int x1, .int x2, .int x3] [.int x2] w) ∧
  (∀ (scr : pX) (w : pW) (x1 : Int32) (x2 : Int32) (x3 : Int32) (s0 : Int32), p_ev scr 126 52 [.ref 24, .int x1, .int x2, .int x3] [.int s0] w = some (.inl (some (.int s0)), w, 0)) :=
  ⟨fun _ _ _ => p_r (by decide +kernel : p_at 126 0 = some (.iconst 0)) rfl,
  fun _ _ _ _ => p_r (by decide +kernel : p_at 126 1 = some (.istore_n 2)) rfl,
  fun _ _ _ _ => p_r (by decide +kernel : p_at 126 2 = some (.iload_n 1)) rfl,
  fun _ _ _ _ _ => p_r (by decide +kernel : p_at 126 3 = some (.istore_n 3)) rfl,
  fun _ _ _ _ _ _ => p_r (by decide +kernel : p_at 126 5 = some (.bipush 16)) rfl,
  fun _ _ _ _ _ _ _ => p_rb2 (c := fun x y => decide (y ≤ x)) (off := 44) (by decide +kernel : p_at 126 7 = some (.if_icmp .ge 44)) (by decide +kernel) rfl rfl rfl,
  fun _ _ _ _ _ => p_r (by decide +kernel : p_at 126 10 = some (.iload_n 2)) rfl,
  fun _ _ _ _ _ _ => p_r (by decide +kernel : p_at 126 11 = some (.aload_n 0)) rfl,
  fun _ _ _ _ _ _ => p_rgf (f := some 25) (by decide +kernel : p_at 126 12 = some (.getfield 7)) (by decide +kernel : p_fld (p_own 126) 7 = some (5, 0)) (rfl : p_ob 24 = some (.inr (5, [some 25, some 26, none, none, none, some 27, some 28, some 29, some 30, some 31, some 32, some 33, some 34, some 35, some 36, some 37, some 38, some 39, none, none, some 40]))) rfl,
  fun _ _ _ _ _ _ => p_r (by decide +kernel : p_at 126 15 = some (.iload_n 3)) rfl,
  fun _ _ _ _ _ _ _ hp => p_riald (by decide +kernel : p_at 126 16 = some (.iaload)) (rfl : p_ob 25 = some (.inl (1, 16))) hp,
  fun _ _ _ _ _ _ _ => p_r (by decide +kernel : p_at 126 17 = some (.iconst 1)) rfl,
  fun _ _ _ _ _ _ _ _ => p_rb2 (c := fun x y => decide (¬ x = y)) (off := 24) (by decide +kernel : p_at 126 18 = some (.if_icmp .ne 24)) (by decide +kernel) rfl rfl rfl,
  fun _ _ _ _ _ _ => p_r (by decide +kernel : p_at 126 21 = some (.aload_n 0)) rfl,
  fun _ _ _ _ _ _ => p_r (by decide +kernel : p_at 126 22 = some (.iload_n 3)) rfl,
  fun _ _ _ _ _ _ _ => p_r (by decide +kernel : p_at 126 23 = some (.iload_n 1)) rfl,
  fun _ _ _ _ _ _ _ _ => p_rcv (nl := 4) (by decide +kernel : p_at 126 24 = some (.invokevirtual 142)) (by decide +kernel : p_inv (p_own 126) 142 = some (1, 118, 3)) (by decide +kernel) (rfl : p_ob 24 = some (.inr (5, [some 25, some 26, none, none, none, some 27, some 28, some 29, some 30, some 31, some 32, some 33, some 34, some 35, some 36, some 37, some 38, some 39, none, none, some 40]))) rfl rfl (Nat.le_of_ble_eq_true rfl) (Nat.le_of_ble_eq_true rfl) (Nat.le_of_ble_eq_true rfl) rfl,
  fun _ _ _ _ _ _ _ => p_rb1 (c := fun x => decide (x = 0)) (off := 15) (by decide +kernel : p_at 126 27 = some (.ifCond .eq 15)) (by decide +kernel) rfl rfl rfl,
  fun _ _ _ _ _ _ => p_r (by decide +kernel : p_at 126 30 = some (.aload_n 0)) rfl,
  fun _ _ _ _ _ _ => p_r (by decide +kernel : p_at 126 31 = some (.aload_n 0)) rfl,
  fun _ _ _ _ _ _ => p_rgf (f := some 26) (by decide +kernel : p_at 126 32 = some (.getfield 13)) (by decide +kernel : p_fld (p_own 126) 13 = some (5, 1)) (rfl : p_ob 24 = some (.inr (5, [some 25, some 26, none, none, none, some 27, some 28, some 29, some 30, some 31, some 32, some 33, some 34, some 35, some 36, some 37, some 38, some 39, none, none, some 40]))) rfl,
  fun _ _ _ _ _ _ => p_r (by decide +kernel : p_at 126 35 = some (.iload_n 3)) rfl,
  fun _ _ _ _ _ _ _ => p_rcv (nl := 5) (by decide +kernel : p_at 126 36 = some (.invokevirtual 153)) (by decide +kernel : p_inv (p_own 126) 153 = some (1, 125, 3)) (by decide +kernel) (rfl : p_ob 24 = some (.inr (5, [some 25, some 26, none, none, none, some 27, some 28, some 29, some 30, some 31, some 32, some 33, some 34, some 35, some 36, some 37, some 38, some 39, none, none, some 40]))) rfl rfl (Nat.le_of_ble_eq_true rfl) (Nat.le_of_ble_eq_true rfl) (Nat.le_of_ble_eq_true rfl) rfl,
  fun _ _ _ _ _ _ _ => p_rgo (by decide +kernel : p_at 126 39 = some (.goto 4)) (by decide +kernel),
  fun _ _ _ _ _ _ => p_r (by decide +kernel : p_at 126 42 = some (.iconst 0)) rfl,
  fun _ _ _ _ _ _ _ => p_r (by decide +kernel : p_at 126 43 = some (.iadd)) rfl,
  fun _ _ _ _ _ _ => p_r (by decide +kernel : p_at 126 44 = some (.istore_n 2)) rfl,
  fun _ _ _ _ _ => p_r (by decide +kernel : p_at 126 45 = some (.iinc 3 1)) rfl,
  fun _ _ _ _ _ => p_rgo (by decide +kernel : p_at 126 48 = some (.goto (-44))) (by decide +kernel),
  fun _ _ _ _ _ => p_r (by decide +kernel : p_at 126 51 = some (.iload_n 2)) rfl,
  fun _ _ _ _ _ _ => p_riret (by decide +kernel : p_at 126 52 = some (.ireturn)) (by decide +kernel)⟩
theorem H126_4 :
  (∀ (scr : pX) (w : pW) (x1 : Int32) (x2 : Int32) (x3 : Int32), p_ev scr 126 4 [.ref 24, .int x1, .int x2, .int x3] [] w = p_ev scr 126 5 [.ref 24, .int x1, .int x2, .int x3] [.int x3] w) :=
  fun _ _ _ _ _ => p_r (by decide +kernel : p_at 126 4 = some (.iload_n 3)) rfl
-- 127: costOf
theorem M127 :
  (∀ (scr : pX) (w : pW) (x1 : Int32), p_ev scr 127 0 [.ref 24, .int x1] [] w = p_ev scr 127 1 [.ref 24, .int x1] [.ref 24] w) ∧
  (∀ (scr : pX) (w : pW) (x1 : Int32), p_ev scr 127 1 [.ref 24, .int x1] [.ref 24] w = p_ev scr 127 2 [.ref 24, .int x1] [.int (nI 0), .ref 24] w) ∧
  (∀ (scr : pX) (w : pW) (x1 : Int32) (s0 : Int32), p_ev scr 127 2 [.ref 24, .int x1] [.int s0, .ref 24] w = p_ev scr 127 5 [.ref 24, .int x1] [] (p_u w.1 24 4 s0, w.2)) ∧
  (∀ (scr : pX) (w : pW) (x1 : Int32), p_ev scr 127 5 [.ref 24, .int x1] [] w = p_ev scr 127 6 [.ref 24, .int x1] [.ref 24] w) ∧
  (∀ (scr : pX) (w : pW) (x1 : Int32), p_ev scr 127 6 [.ref 24, .int x1] [.ref 24] w = p_ev scr 127 7 [.ref 24, .int x1] [.int x1, .ref 24] w) ∧
  (∀ (scr : pX) (w : pW) (x1 : Int32) (s0 : Int32), p_ev scr 127 7 [.ref 24, .int x1] [.int s0, .ref 24] w = p_bnd scr 127 7 10 [.ref 24, .int x1] [] (p_ev none 102 0 [.ref 24, .int s0] [] w)) ∧
  (∀ (scr : pX) (w : pW) (x1 : Int32) (s0 : Int32), p_ev scr 127 10 [.ref 24, .int x1] [.int s0] w = if s0 = nI 0 then p_ev scr 127 21 [.ref 24, .int x1] [] w else p_ev scr 127 13 [.ref 24, .int x1] [] w) ∧
  (∀ (scr : pX) (w : pW) (x1 : Int32), p_ev scr 127 13 [.ref 24, .int x1] [] w = p_ev scr 127 14 [.ref 24, .int x1] [.ref 24] w) ∧
  (∀ (scr : pX) (w : pW) (x1 : Int32), p_ev scr 127 14 [.ref 24, .int x1] [.ref 24] w = p_ev scr 127 15 [.ref 24, .int x1] [.int x1, .ref 24] w) ∧
  (∀ (scr : pX) (w : pW) (x1 : Int32) (s0 : Int32), p_ev scr 127 15 [.ref 24, .int x1] [.int s0, .ref 24] w = p_bnd scr 127 15 18 [.ref 24, .int x1] [] (p_ev none 126 0 [.ref 24, .int s0, p_U, p_U] [] w)) ∧
  (∀ (scr : pX) (w : pW) (x1 : Int32) (s0 : Int32), p_ev scr 127 18 [.ref 24, .int x1] [.int s0] w = p_ev scr 127 26 [.ref 24, .int x1] [.int s0] w) ∧
  (∀ (scr : pX) (w : pW) (x1 : Int32), p_ev scr 127 21 [.ref 24, .int x1] [] w = p_ev scr 127 22 [.ref 24, .int x1] [.ref 24] w) ∧
  (∀ (scr : pX) (w : pW) (x1 : Int32), p_ev scr 127 22 [.ref 24, .int x1] [.ref 24] w = p_ev scr 127 23 [.ref 24, .int x1] [.int (nI 1), .ref 24] w) ∧
  (∀ (scr : pX) (w : pW) (x1 : Int32) (s0 : Int32), p_ev scr 127 23 [.ref 24, .int x1] [.int s0, .ref 24] w = p_bnd scr 127 23 26 [.ref 24, .int x1] [] (p_ev none 96 0 [.ref 24, .int s0] [] w)) ∧
  (∀ (scr : pX) (w : pW) (x1 : Int32) (s0 : Int32), p_ev scr 127 26 [.ref 24, .int x1] [.int s0] w = some (.inl (some (.int s0)), w, 0)) :=
  ⟨fun _ _ _ => p_r (by decide +kernel : p_at 127 0 = some (.aload_n 0)) rfl,
  fun _ _ _ => p_r (by decide +kernel : p_at 127 1 = some (.iconst 0)) rfl,
  fun _ _ _ _ => p_rpf (by decide +kernel : p_at 127 2 = some (.putfield 63)) (by decide +kernel : p_fld (p_own 127) 63 = some (5, 4)) (rfl : p_ob 24 = some (.inr (5, [some 25, some 26, none, none, none, some 27, some 28, some 29, some 30, some 31, some 32, some 33, some 34, some 35, some 36, some 37, some 38, some 39, none, none, some 40]))) rfl,
  fun _ _ _ => p_r (by decide +kernel : p_at 127 5 = some (.aload_n 0)) rfl,
  fun _ _ _ => p_r (by decide +kernel : p_at 127 6 = some (.iload_n 1)) rfl,
  fun _ _ _ _ => p_rcv (nl := 2) (by decide +kernel : p_at 127 7 = some (.invokevirtual 135)) (by decide +kernel : p_inv (p_own 127) 135 = some (1, 102, 2)) (by decide +kernel) (rfl : p_ob 24 = some (.inr (5, [some 25, some 26, none, none, none, some 27, some 28, some 29, some 30, some 31, some 32, some 33, some 34, some 35, some 36, some 37, some 38, some 39, none, none, some 40]))) rfl rfl (Nat.le_of_ble_eq_true rfl) (Nat.le_of_ble_eq_true rfl) (Nat.le_of_ble_eq_true rfl) rfl,
  fun _ _ _ _ => p_rb1 (c := fun x => decide (x = 0)) (off := 11) (by decide +kernel : p_at 127 10 = some (.ifCond .eq 11)) (by decide +kernel) rfl rfl rfl,
  fun _ _ _ => p_r (by decide +kernel : p_at 127 13 = some (.aload_n 0)) rfl,
  fun _ _ _ => p_r (by decide +kernel : p_at 127 14 = some (.iload_n 1)) rfl,
  fun _ _ _ _ => p_rcv (nl := 4) (by decide +kernel : p_at 127 15 = some (.invokevirtual 157)) (by decide +kernel : p_inv (p_own 127) 157 = some (1, 126, 2)) (by decide +kernel) (rfl : p_ob 24 = some (.inr (5, [some 25, some 26, none, none, none, some 27, some 28, some 29, some 30, some 31, some 32, some 33, some 34, some 35, some 36, some 37, some 38, some 39, none, none, some 40]))) rfl rfl (Nat.le_of_ble_eq_true rfl) (Nat.le_of_ble_eq_true rfl) (Nat.le_of_ble_eq_true rfl) rfl,
  fun _ _ _ _ => p_rgo (by decide +kernel : p_at 127 18 = some (.goto 8)) (by decide +kernel),
  fun _ _ _ => p_r (by decide +kernel : p_at 127 21 = some (.aload_n 0)) rfl,
  fun _ _ _ => p_r (by decide +kernel : p_at 127 22 = some (.iconst 1)) rfl,
  fun _ _ _ _ => p_rcv (nl := 2) (by decide +kernel : p_at 127 23 = some (.invokevirtual 76)) (by decide +kernel : p_inv (p_own 127) 76 = some (1, 96, 2)) (by decide +kernel) (rfl : p_ob 24 = some (.inr (5, [some 25, some 26, none, none, none, some 27, some 28, some 29, some 30, some 31, some 32, some 33, some 34, some 35, some 36, some 37, some 38, some 39, none, none, some 40]))) rfl rfl (Nat.le_of_ble_eq_true rfl) (Nat.le_of_ble_eq_true rfl) (Nat.le_of_ble_eq_true rfl) rfl,
  fun _ _ _ _ => p_riret (by decide +kernel : p_at 127 26 = some (.ireturn)) (by decide +kernel)⟩
-- 128: chooseBasis
theorem M128 :
  (∀ (scr : pX) (w : pW) (x1 : Int32), p_ev scr 128 0 [.ref 24, .int x1, p_U, p_U, p_U, p_U] [] w = p_ev scr 128 1 [.ref 24, .int x1, p_U, p_U, p_U, p_U] [.ref 24] w) ∧
  (∀ (scr : pX) (w : pW) (x1 : Int32), p_ev scr 128 1 [.ref 24, .int x1, p_U, p_U, p_U, p_U] [.ref 24] w = p_ev scr 128 2 [.ref 24, .int x1, p_U, p_U, p_U, p_U] [.int (nI 0), .ref 24] w) ∧
  (∀ (scr : pX) (w : pW) (x1 : Int32) (s0 : Int32), p_ev scr 128 2 [.ref 24, .int x1, p_U, p_U, p_U, p_U] [.int s0, .ref 24] w = p_ev scr 128 5 [.ref 24, .int x1, p_U, p_U, p_U, p_U] [] (p_u w.1 24 4 s0, w.2)) ∧
  (∀ (scr : pX) (w : pW) (x1 : Int32), p_ev scr 128 5 [.ref 24, .int x1, p_U, p_U, p_U, p_U] [] w = p_ev scr 128 6 [.ref 24, .int x1, p_U, p_U, p_U, p_U] [.int x1] w) ∧
  (∀ (scr : pX) (w : pW) (x1 : Int32) (s0 : Int32), p_ev scr 128 6 [.ref 24, .int x1, p_U, p_U, p_U, p_U] [.int s0] w = p_ev scr 128 7 [.ref 24, .int x1, p_U, p_U, p_U, p_U] [.int (nI 1), .int s0] w) ∧
  (∀ (scr : pX) (w : pW) (x1 : Int32) (s0 : Int32) (s1 : Int32), p_ev scr 128 7 [.ref 24, .int x1, p_U, p_U, p_U, p_U] [.int s0, .int s1] w = p_ev scr 128 8 [.ref 24, .int x1, p_U, p_U, p_U, p_U] [.int (nI 3), .int s0, .int s1] w) ∧
  (∀ (scr : pX) (w : pW) (x1 : Int32) (s0 : Int32) (s1 : Int32) (s2 : Int32), p_ev scr 128 8 [.ref 24, .int x1, p_U, p_U, p_U, p_U] [.int s0, .int s1, .int s2] w = p_bnd scr 128 8 11 [.ref 24, .int x1, p_U, p_U, p_U, p_U] [] (p_ev none 97 0 [.int s2, .int s1, .int s0] [] w)) ∧
  (∀ (scr : pX) (w : pW) (x1 : Int32) (s0 : Int32), p_ev scr 128 11 [.ref 24, .int x1, p_U, p_U, p_U, p_U] [.int s0] w = if ¬ s0 = nI 0 then p_ev scr 128 20 [.ref 24, .int x1, p_U, p_U, p_U, p_U] [] w else p_ev scr 128 14 [.ref 24, .int x1, p_U, p_U, p_U, p_U] [] w) ∧
  (∀ (scr : pX) (w : pW) (x1 : Int32), p_ev scr 128 14 [.ref 24, .int x1, p_U, p_U, p_U, p_U] [] w = p_ev scr 128 15 [.ref 24, .int x1, p_U, p_U, p_U, p_U] [.ref 24] w) ∧
  (∀ (scr : pX) (w : pW) (x1 : Int32), p_ev scr 128 15 [.ref 24, .int x1, p_U, p_U, p_U, p_U] [.ref 24] w = p_ev scr 128 16 [.ref 24, .int x1, p_U, p_U, p_U, p_U] [.int (nI 1), .ref 24] w) ∧
  (∀ (scr : pX) (w : pW) (x1 : Int32) (s0 : Int32), p_ev scr 128 16 [.ref 24, .int x1, p_U, p_U, p_U, p_U] [.int s0, .ref 24] w = p_bnd scr 128 16 19 [.ref 24, .int x1, p_U, p_U, p_U, p_U] [] (p_ev none 96 0 [.ref 24, .int s0] [] w)) ∧
  (∀ (scr : pX) (w : pW) (x1 : Int32) (s0 : Int32), p_ev scr 128 19 [.ref 24, .int x1, p_U, p_U, p_U, p_U] [.int s0] w = some (.inl (some (.int s0)), w, 0)) ∧
  (∀ (scr : pX) (w : pW) (x1 : Int32), p_ev scr 128 20 [.ref 24, .int x1, p_U, p_U, p_U, p_U] [] w = p_ev scr 128 21 [.ref 24, .int x1, p_U, p_U, p_U, p_U] [.ref 24] w) ∧
  (∀ (scr : pX) (w : pW) (x1 : Int32), p_ev scr 128 21 [.ref 24, .int x1, p_U, p_U, p_U, p_U] [.ref 24] w = p_ev scr 128 22 [.ref 24, .int x1, p_U, p_U, p_U, p_U] [.int (nI 1), .ref 24] w) ∧
  (∀ (scr : pX) (w : pW) (x1 : Int32) (s0 : Int32), p_ev scr 128 22 [.ref 24, .int x1, p_U, p_U, p_U, p_U] [.int s0, .ref 24] w = p_bnd scr 128 22 25 [.ref 24, .int x1, p_U, p_U, p_U, p_U] [] (p_ev none 119 0 [.ref 24, .int s0, p_U, p_U] [] w)) ∧
  (∀ (scr : pX) (w : pW) (x1 : Int32) (s0 : Int32), p_ev scr 128 25 [.ref 24, .int x1, p_U, p_U, p_U, p_U] [.int s0] w = p_ev scr 128 26 [.ref 24, .int x1, p_U, p_U, p_U, p_U] [] w) ∧
  (∀ (scr : pX) (w : pW) (x1 : Int32), p_ev scr 128 26 [.ref 24, .int x1, p_U, p_U, p_U, p_U] [] w = p_ev scr 128 27 [.ref 24, .int x1, p_U, p_U, p_U, p_U] [.int (nI 1)] w) ∧
  (∀ (scr : pX) (w : pW) (x1 : Int32) (s0 : Int32), p_ev scr 128 27 [.ref 24, .int x1, p_U, p_U, p_U, p_U] [.int s0] w = p_ev scr 128 28 [.ref 24, .int x1, p_U, p_U, p_U, p_U] [.int x1, .int s0] w) ∧
  (∀ (scr : pX) (w : pW) (x1 : Int32) (s0 : Int32) (s1 : Int32), p_ev scr 128 28 [.ref 24, .int x1, p_U, p_U, p_U, p_U] [.int s0, .int s1] w = p_ev scr 128 29 [.ref 24, .int x1, p_U, p_U, p_U, p_U] [.int (s1 <<< (s0 &&& 31))] w) ∧
  (∀ (scr : pX) (w : pW) (x1 : Int32) (s0 : Int32), p_ev scr 128 29 [.ref 24, .int x1, p_U, p_U, p_U, p_U] [.int s0] w = p_ev scr 128 30 [.ref 24, .int x1, .int s0, p_U, p_U, p_U] [] w) ∧
  (∀ (scr : pX) (w : pW) (x1 : Int32) (x2 : Int32), p_ev scr 128 30 [.ref 24, .int x1, .int x2, p_U, p_U, p_U] [] w = p_ev scr 128 31 [.ref 24, .int x1, .int x2, p_U, p_U, p_U] [.int (nI 1)] w) ∧
  (∀ (scr : pX) (w : pW) (x1 : Int32) (x2 : Int32) (s0 : Int32), p_ev scr 128 31 [.ref 24, .int x1, .int x2, p_U, p_U, p_U] [.int s0] w = p_ev scr 128 32 [.ref 24, .int x1, .int x2, .int s0, p_U, p_U] [] w) ∧
  (∀ (scr : pX) (w : pW) (x1 : Int32) (x2 : Int32) (x3 : Int32) (s0 : Int32), p_ev scr 128 33 [.ref 24, .int x1, .int x2, .int x3, p_U, p_U] [.int s0] w = p_ev scr 128 34 [.ref 24, .int x1, .int x2, .int x3, p_U, p_U] [.int x2, .int s0] w) ∧
  (∀ (scr : pX) (w : pW) (x1 : Int32) (x2 : Int32) (x3 : Int32) (s0 : Int32) (s1 : Int32), p_ev scr 128 34 [.ref 24, .int x1, .int x2, .int x3, p_U, p_U] [.int s0, .int s1] w = if s0 ≤ s1 then p_ev scr 128 61 [.ref 24, .int x1, .int x2, .int x3, p_U, p_U] [] w else p_ev scr 128 37 [.ref 24, .int x1, .int x2, .int x3, p_U, p_U] [] w) ∧
  (∀ (scr : pX) (w : pW) (x1 : Int32) (x2 : Int32) (x3 : Int32), p_ev scr 128 37 [.ref 24, .int x1, .int x2, .int x3, p_U, p_U] [] w = p_ev scr 128 38 [.ref 24, .int x1, .int x2, .int x3, p_U, p_U] [.ref 24] w) ∧
  (∀ (scr : pX) (w : pW) (x1 : Int32) (x2 : Int32) (x3 : Int32), p_ev scr 128 38 [.ref 24, .int x1, .int x2, .int x3, p_U, p_U] [.ref 24] w = p_ev scr 128 39 [.ref 24, .int x1, .int x2, .int x3, p_U, p_U] [.int x3, .ref 24] w) ∧
  (∀ (scr : pX) (w : pW) (x1 : Int32) (x2 : Int32) (x3 : Int32) (s0 : Int32), p_ev scr 128 39 [.ref 24, .int x1, .int x2, .int x3, p_U, p_U] [.int s0, .ref 24] w = p_bnd scr 128 39 42 [.ref 24, .int x1, .int x2, .int x3, p_U, p_U] [] (p_ev none 101 0 [.ref 24, .int s0, p_U, p_U] [] w)) ∧
  (∀ (scr : pX) (w : pW) (x1 : Int32) (x2 : Int32) (x3 : Int32) (s0 : Int32), p_ev scr 128 42 [.ref 24, .int x1, .int x2, .int x3, p_U, p_U] [.int s0] w = p_ev scr 128 43 [.ref 24, .int x1, .int x2, .int x3, p_U, p_U] [.int (nI 1), .int s0] w) ∧
  (∀ (scr : pX) (w : pW) (x1 : Int32) (x2 : Int32) (x3 : Int32) (s0 : Int32) (s1 : Int32), p_ev scr 128 43 [.ref 24, .int x1, .int x2, .int x3, p_U, p_U] [.int s0, .int s1] w = if s1 ≤ s0 then p_ev scr 128 55 [.ref 24, .int x1, .int x2, .int x3, p_U, p_U] [] w else p_ev scr 128 46 [.ref 24, .int x1, .int x2, .int x3, p_U, p_U] [] w) ∧
  (∀ (scr : pX) (w : pW) (x1 : Int32) (x2 : Int32) (x3 : Int32), p_ev scr 128 46 [.ref 24, .int x1, .int x2, .int x3, p_U, p_U] [] w = p_ev scr 128 47 [.ref 24, .int x1, .int x2, .int x3, p_U, p_U] [.ref 24] w) ∧
  (∀ (scr : pX) (w : pW) (x1 : Int32) (x2 : Int32) (x3 : Int32), p_ev scr 128 47 [.ref 24, .int x1, .int x2, .int x3, p_U, p_U] [.ref 24] w = p_ev scr 128 48 [.ref 24, .int x1, .int x2, .int x3, p_U, p_U] [.ref 24, .ref 24] w) ∧
  (∀ (scr : pX) (w : pW) (x1 : Int32) (x2 : Int32) (x3 : Int32), p_ev scr 128 48 [.ref 24, .int x1, .int x2, .int x3, p_U, p_U] [.ref 24, .ref 24] w = p_ev scr 128 51 [.ref 24, .int x1, .int x2, .int x3, p_U, p_U] [.ref 26, .ref 24] w) ∧
  (∀ (scr : pX) (w : pW) (x1 : Int32) (x2 : Int32) (x3 : Int32), p_ev scr 128 51 [.ref 24, .int x1, .int x2, .int x3, p_U, p_U] [.ref 26, .ref 24] w = p_ev scr 128 52 [.ref 24, .int x1, .int x2, .int x3, p_U, p_U] [.int x3, .ref 26, .ref 24] w) ∧
  (∀ (scr : pX) (w : pW) (x1 : Int32) (x2 : Int32) (x3 : Int32) (s0 : Int32), p_ev scr 128 52 [.ref 24, .int x1, .int x2, .int x3, p_U, p_U] [.int s0, .ref 26, .ref 24] w = p_bnd scr 128 52 55 [.ref 24, .int x1, .int x2, .int x3, p_U, p_U] [] (p_ev none 110 0 [.ref 24, .ref 26, .int s0, p_U, p_U] [] w)) ∧
  (∀ (scr : pX) (w : pW) (x1 : Int32) (x2 : Int32) (x3 : Int32), p_ev scr 128 55 [.ref 24, .int x1, .int x2, .int x3, p_U, p_U] [] w = p_ev scr 128 58 [.ref 24, .int x1, .int x2, .int (x3 + (nI 1)), p_U, p_U] [] w) ∧
  (∀ (scr : pX) (w : pW) (x1 : Int32) (x2 : Int32) (x3 : Int32), p_ev scr 128 58 [.ref 24, .int x1, .int x2, .int x3, p_U, p_U] [] w = p_ev scr 128 32 [.ref 24, .int x1, .int x2, .int x3, p_U, p_U] [] w) ∧
  (∀ (scr : pX) (w : pW) (x1 : Int32) (x2 : Int32) (x3 : Int32), p_ev scr 128 61 [.ref 24, .int x1, .int x2, .int x3, p_U, p_U] [] w = p_ev scr 128 62 [.ref 24, .int x1, .int x2, .int x3, p_U, p_U] [.int (nI 2)] w) ∧
  (∀ (scr : pX) (w : pW) (x1 : Int32) (x2 : Int32) (x3 : Int32) (s0 : Int32), p_ev scr 128 62 [.ref 24, .int x1, .int x2, .int x3, p_U, p_U] [.int s0] w = p_ev scr 128 63 [.ref 24, .int x1, .int x2, .int x3, p_U, p_U] [.int x2, .int s0] w) ∧
  (∀ (scr : pX) (w : pW) (x1 : Int32) (x2 : Int32) (x3 : Int32) (s0 : Int32) (s1 : Int32), p_ev scr 128 63 [.ref 24, .int x1, .int x2, .int x3, p_U, p_U] [.int s0, .int s1] w = p_ev scr 128 64 [.ref 24, .int x1, .int x2, .int x3, p_U, p_U] [.int (s1 * s0)] w) ∧
  (∀ (scr : pX) (w : pW) (x1 : Int32) (x2 : Int32) (x3 : Int32) (s0 : Int32), p_ev scr 128 64 [.ref 24, .int x1, .int x2, .int x3, p_U, p_U] [.int s0] w = p_ev scr 128 65 [.ref 24, .int x1, .int x2, .int x3, p_U, p_U] [.int (nI 1), .int s0] w) ∧
  (∀ (scr : pX) (w : pW) (x1 : Int32) (x2 : Int32) (x3 : Int32) (s0 : Int32) (s1 : Int32), p_ev scr 128 65 [.ref 24, .int x1, .int x2, .int x3, p_U, p_U] [.int s0, .int s1] w = p_ev scr 128 66 [.ref 24, .int x1, .int x2, .int x3, p_U, p_U] [.int (s1 - s0)] w) ∧
  (∀ (scr : pX) (w : pW) (x1 : Int32) (x2 : Int32) (x3 : Int32) (s0 : Int32), p_ev scr 128 66 [.ref 24, .int x1, .int x2, .int x3, p_U, p_U] [.int s0] w = p_ev scr 128 67 [.ref 24, .int x1, .int x2, .int s0, p_U, p_U] [] w) ∧
  (∀ (scr : pX) (w : pW) (x1 : Int32) (x2 : Int32) (x3 : Int32) (z4 : Value) (z5 : Value) (s0 : Int32), p_ev scr 128 68 [.ref 24, .int x1, .int x2, .int x3, z4, z5] [.int s0] w = if s0 ≤ nI 0 then p_ev scr 128 196 [.ref 24, .int x1, .int x2, .int x3, z4, z5] [] w else p_ev scr 128 71 [.ref 24, .int x1, .int x2, .int x3, z4, z5] [] w) ∧
  (∀ (scr : pX) (w : pW) (x1 : Int32) (x2 : Int32) (x3 : Int32) (z4 : Value) (z5 : Value), p_ev scr 128 71 [.ref 24, .int x1, .int x2, .int x3, z4, z5] [] w = p_ev scr 128 72 [.ref 24, .int x1, .int x2, .int x3, z4, z5] [.ref 24] w) ∧
  (∀ (scr : pX) (w : pW) (x1 : Int32) (x2 : Int32) (x3 : Int32) (z4 : Value) (z5 : Value), p_ev scr 128 72 [.ref 24, .int x1, .int x2, .int x3, z4, z5] [.ref 24] w = p_ev scr 128 73 [.ref 24, .int x1, .int x2, .int x3, z4, z5] [.int x3, .ref 24] w) ∧
  (∀ (scr : pX) (w : pW) (x1 : Int32) (x2 : Int32) (x3 : Int32) (z4 : Value) (z5 : Value) (s0 : Int32), p_ev scr 128 73 [.ref 24, .int x1, .int x2, .int x3, z4, z5] [.int s0, .ref 24] w = p_bnd scr 128 73 76 [.ref 24, .int x1, .int x2, .int x3, z4, z5] [] (p_ev none 101 0 [.ref 24, .int s0, p_U, p_U] [] w)) ∧
  (∀ (scr : pX) (w : pW) (x1 : Int32) (x2 : Int32) (x3 : Int32) (z4 : Value) (z5 : Value) (s0 : Int32), p_ev scr 128 76 [.ref 24, .int x1, .int x2, .int x3, z4, z5] [.int s0] w = if s0 ≤ nI 0 then p_ev scr 128 91 [.ref 24, .int x1, .int x2, .int x3, z4, z5] [] w else p_ev scr 128 79 [.ref 24, .int x1, .int x2, .int x3, z4, z5] [] w) ∧
  (∀ (scr : pX) (w : pW) (x1 : Int32) (x2 : Int32) (x3 : Int32) (z4 : Value) (z5 : Value), p_ev scr 128 79 [.ref 24, .int x1, .int x2, .int x3, z4, z5] [] w = p_ev scr 128 80 [.ref 24, .int x1, .int x2, .int x3, z4, z5] [.ref 24] w) ∧
  (∀ (scr : pX) (w : pW) (x1 : Int32) (x2 : Int32) (x3 : Int32) (z4 : Value) (z5 : Value), p_ev scr 128 80 [.ref 24, .int x1, .int x2, .int x3, z4, z5] [.ref 24] w = p_ev scr 128 81 [.ref 24, .int x1, .int x2, .int x3, z4, z5] [.ref 24, .ref 24] w) ∧
  (∀ (scr : pX) (w : pW) (x1 : Int32) (x2 : Int32) (x3 : Int32) (z4 : Value) (z5 : Value), p_ev scr 128 81 [.ref 24, .int x1, .int x2, .int x3, z4, z5] [.ref 24, .ref 24] w = p_ev scr 128 84 [.ref 24, .int x1, .int x2, .int x3, z4, z5] [.ref 26, .ref 24] w) ∧
  (∀ (scr : pX) (w : pW) (x1 : Int32) (x2 : Int32) (x3 : Int32) (z4 : Value) (z5 : Value), p_ev scr 128 84 [.ref 24, .int x1, .int x2, .int x3, z4, z5] [.ref 26, .ref 24] w = p_ev scr 128 85 [.ref 24, .int x1, .int x2, .int x3, z4, z5] [.int x3, .ref 26, .ref 24] w) ∧
  (∀ (scr : pX) (w : pW) (x1 : Int32) (x2 : Int32) (x3 : Int32) (z4 : Value) (z5 : Value) (s0 : Int32), p_ev scr 128 85 [.ref 24, .int x1, .int x2, .int x3, z4, z5] [.int s0, .ref 26, .ref 24] w = p_bnd scr 128 85 88 [.ref 24, .int x1, .int x2, .int x3, z4, z5] [] (p_ev none 125 0 [.ref 24, .ref 26, .int s0, p_U, p_U] [] w)) ∧
  (∀ (scr : pX) (w : pW) (x1 : Int32) (x2 : Int32) (x3 : Int32) (z4 : Value) (z5 : Value) (s0 : Int32), p_ev scr 128 88 [.ref 24, .int x1, .int x2, .int x3, z4, z5] [.int s0] w = p_ev scr 128 92 [.ref 24, .int x1, .int x2, .int x3, z4, z5] [.int s0] w) ∧
  (∀ (scr : pX) (w : pW) (x1 : Int32) (x2 : Int32) (x3 : Int32) (z4 : Value) (z5 : Value), p_ev scr 128 91 [.ref 24, .int x1, .int x2, .int x3, z4, z5] [] w = p_ev scr 128 92 [.ref 24, .int x1, .int x2, .int x3, z4, z5] [.int (nI 0)] w) ∧
  (∀ (scr : pX) (w : pW) (x1 : Int32) (x2 : Int32) (x3 : Int32) (z4 : Value) (z5 : Value) (s0 : Int32), p_ev scr 128 92 [.ref 24, .int x1, .int x2, .int x3, z4, z5] [.int s0] w = p_ev scr 128 94 [.ref 24, .int x1, .int x2, .int x3, .int s0, z5] [] w) ∧
  (∀ (scr : pX) (w : pW) (x1 : Int32) (x2 : Int32) (x3 : Int32) (x4 : Int32) (z5 : Value), p_ev scr 128 94 [.ref 24, .int x1, .int x2, .int x3, .int x4, z5] [] w = p_ev scr 128 95 [.ref 24, .int x1, .int x2, .int x3, .int x4, z5] [.int x3] w) ∧
  (∀ (scr : pX) (w : pW) (x1 : Int32) (x2 : Int32) (x3 : Int32) (x4 : Int32) (z5 : Value) (s0 : Int32), p_ev scr 128 95 [.ref 24, .int x1, .int x2, .int x3, .int x4, z5] [.int s0] w = p_ev scr 128 96 [.ref 24, .int x1, .int x2, .int x3, .int x4, z5] [.int x2, .int s0] w) ∧
  (∀ (scr : pX) (w : pW) (x1 : Int32) (x2 : Int32) (x3 : Int32) (x4 : Int32) (z5 : Value) (s0 : Int32) (s1 : Int32), p_ev scr 128 96 [.ref 24, .int x1, .int x2, .int x3, .int x4, z5] [.int s0, .int s1] w = if s0 ≤ s1 then p_ev scr 128 136 [.ref 24, .int x1, .int x2, .int x3, .int x4, z5] [] w else p_ev scr 128 99 [.ref 24, .int x1, .int x2, .int x3, .int x4, z5] [] w) ∧
  (∀ (scr : pX) (w : pW) (x1 : Int32) (x2 : Int32) (x3 : Int32) (x4 : Int32) (z5 : Value), p_ev scr 128 99 [.ref 24, .int x1, .int x2, .int x3, .int x4, z5] [] w = p_ev scr 128 100 [.ref 24, .int x1, .int x2, .int x3, .int x4, z5] [.ref 24] w) ∧
  (∀ (scr : pX) (w : pW) (x1 : Int32) (x2 : Int32) (x3 : Int32) (x4 : Int32) (z5 : Value), p_ev scr 128 100 [.ref 24, .int x1, .int x2, .int x3, .int x4, z5] [.ref 24] w = p_ev scr 128 101 [.ref 24, .int x1, .int x2, .int x3, .int x4, z5] [.int x3, .ref 24] w) ∧
  (∀ (scr : pX) (w : pW) (x1 : Int32) (x2 : Int32) (x3 : Int32) (x4 : Int32) (z5 : Value) (s0 : Int32), p_ev scr 128 101 [.ref 24, .int x1, .int x2, .int x3, .int x4, z5] [.int s0, .ref 24] w = p_bnd scr 128 101 104 [.ref 24, .int x1, .int x2, .int x3, .int x4, z5] [] (p_ev none 101 0 [.ref 24, .int s0, p_U, p_U] [] w)) ∧
  (∀ (scr : pX) (w : pW) (x1 : Int32) (x2 : Int32) (x3 : Int32) (x4 : Int32) (z5 : Value) (s0 : Int32), p_ev scr 128 104 [.ref 24, .int x1, .int x2, .int x3, .int x4, z5] [.int s0] w = p_ev scr 128 105 [.ref 24, .int x1, .int x2, .int x3, .int x4, z5] [.int (nI 1), .int s0] w) ∧
  (∀ (scr : pX) (w : pW) (x1 : Int32) (x2 : Int32) (x3 : Int32) (x4 : Int32) (z5 : Value) (s0 : Int32) (s1 : Int32), p_ev scr 128 105 [.ref 24, .int x1, .int x2, .int x3, .int x4, z5] [.int s0, .int s1] w = if s1 ≤ s0 then p_ev scr 128 136 [.ref 24, .int x1, .int x2, .int x3, .int x4, z5] [] w else p_ev scr 128 108 [.ref 24, .int x1, .int x2, .int x3, .int x4, z5] [] w) ∧
  (∀ (scr : pX) (w : pW) (x1 : Int32) (x2 : Int32) (x3 : Int32) (x4 : Int32) (z5 : Value), p_ev scr 128 108 [.ref 24, .int x1, .int x2, .int x3, .int x4, z5] [] w = p_ev scr 128 109 [.ref 24, .int x1, .int x2, .int x3, .int x4, z5] [.ref 24] w) ∧
  (∀ (scr : pX) (w : pW) (x1 : Int32) (x2 : Int32) (x3 : Int32) (x4 : Int32) (z5 : Value), p_ev scr 128 109 [.ref 24, .int x1, .int x2, .int x3, .int x4, z5] [.ref 24] w = p_ev scr 128 112 [.ref 24, .int x1, .int x2, .int x3, .int x4, z5] [.ref 30] w) ∧
  (∀ (scr : pX) (w : pW) (x1 : Int32) (x2 : Int32) (x3 : Int32) (x4 : Int32) (z5 : Value), p_ev scr 128 112 [.ref 24, .int x1, .int x2, .int x3, .int x4, z5] [.ref 30] w = p_ev scr 128 113 [.ref 24, .int x1, .int x2, .int x3, .int x4, z5] [.int (nI 2), .ref 30] w) ∧
  (∀ (scr : pX) (w : pW) (x1 : Int32) (x2 : Int32) (x3 : Int32) (x4 : Int32) (z5 : Value) (s0 : Int32), p_ev scr 128 113 [.ref 24, .int x1, .int x2, .int x3, .int x4, z5] [.int s0, .ref 30] w = p_ev scr 128 114 [.ref 24, .int x1, .int x2, .int x3, .int x4, z5] [.int x3, .int s0, .ref 30] w) ∧
  (∀ (scr : pX) (w : pW) (x1 : Int32) (x2 : Int32) (x3 : Int32) (x4 : Int32) (z5 : Value) (s0 : Int32) (s1 : Int32), p_ev scr 128 114 [.ref 24, .int x1, .int x2, .int x3, .int x4, z5] [.int s0, .int s1, .ref 30] w = p_ev scr 128 115 [.ref 24, .int x1, .int x2, .int x3, .int x4, z5] [.int (s1 * s0), .ref 30] w) ∧
  (∀ (scr : pX) (w : pW) (x1 : Int32) (x2 : Int32) (x3 : Int32) (x4 : Int32) (z5 : Value) (s0 : Int32), p_out s0 16 = false → p_ev scr 128 115 [.ref 24, .int x1, .int x2, .int x3, .int x4, z5] [.int s0, .ref 30] w = p_ev scr 128 116 [.ref 24, .int x1, .int x2, .int x3, .int x4, z5] [.int (w.2.2 30 s0.toNatClampNeg)] w) ∧
  (∀ (scr : pX) (w : pW) (x1 : Int32) (x2 : Int32) (x3 : Int32) (x4 : Int32) (z5 : Value) (s0 : Int32), p_ev scr 128 116 [.ref 24, .int x1, .int x2, .int x3, .int x4, z5] [.int s0] w = p_ev scr 128 117 [.ref 24, .int x1, .int x2, .int x3, .int x4, z5] [.ref 24, .int s0] w) ∧
  (∀ (scr : pX) (w : pW) (x1 : Int32) (x2 : Int32) (x3 : Int32) (x4 : Int32) (z5 : Value) (s1 : Int32), p_ev scr 128 117 [.ref 24, .int x1, .int x2, .int x3, .int x4, z5] [.ref 24, .int s1] w = p_ev scr 128 120 [.ref 24, .int x1, .int x2, .int x3, .int x4, z5] [.ref 30, .int s1] w) ∧
  (∀ (scr : pX) (w : pW) (x1 : Int32) (x2 : Int32) (x3 : Int32) (x4 : Int32) (z5 : Value) (s1 : Int32), p_ev scr 128 120 [.ref 24, .int x1, .int x2, .int x3, .int x4, z5] [.ref 30, .int s1] w = p_ev scr 128 121 [.ref 24, .int x1, .int x2, .int x3, .int x4, z5] [.int (nI 2), .ref 30, .int s1] w) ∧
  (∀ (scr : pX) (w : pW) (x1 : Int32) (x2 : Int32) (x3 : Int32) (x4 : Int32) (z5 : Value) (s0 : Int32) (s2 : Int32), p_ev scr 128 121 [.ref 24, .int x1, .int x2, .int x3, .int x4, z5] [.int s0, .ref 30, .int s2] w = p_ev scr 128 122 [.ref 24, .int x1, .int x2, .int x3, .int x4, z5] [.int x3, .int s0, .ref 30, .int s2] w) ∧
  (∀ (scr : pX) (w : pW) (x1 : Int32) (x2 : Int32) (x3 : Int32) (x4 : Int32) (z5 : Value) (s0 : Int32) (s1 : Int32) (s3 : Int32), p_ev scr 128 122 [.ref 24, .int x1, .int x2, .int x3, .int x4, z5] [.int s0, .int s1, .ref 30, .int s3] w = p_ev scr 128 123 [.ref 24, .int x1, .int x2, .int x3, .int x4, z5] [.int (s1 * s0), .ref 30, .int s3] w) ∧
  (∀ (scr : pX) (w : pW) (x1 : Int32) (x2 : Int32) (x3 : Int32) (x4 : Int32) (z5 : Value) (s0 : Int32) (s2 : Int32), p_ev scr 128 123 [.ref 24, .int x1, .int x2, .int x3, .int x4, z5] [.int s0, .ref 30, .int s2] w = p_ev scr 128 124 [.ref 24, .int x1, .int x2, .int x3, .int x4, z5] [.int (nI 1), .int s0, .ref 30, .int s2] w) ∧
  (∀ (scr : pX) (w : pW) (x1 : Int32) (x2 : Int32) (x3 : Int32) (x4 : Int32) (z5 : Value) (s0 : Int32) (s1 : Int32) (s3 : Int32), p_ev scr 128 124 [.ref 24, .int x1, .int x2, .int x3, .int x4, z5] [.int s0, .int s1, .ref 30, .int s3] w = p_ev scr 128 125 [.ref 24, .int x1, .int x2, .int x3, .int x4, z5] [.int (s1 + s0), .ref 30, .int s3] w) ∧
  (∀ (scr : pX) (w : pW) (x1 : Int32) (x2 : Int32) (x3 : Int32) (x4 : Int32) (z5 : Value) (s0 : Int32) (s2 : Int32), p_out s0 16 = false → p_ev scr 128 125 [.ref 24, .int x1, .int x2, .int x3, .int x4, z5] [.int s0, .ref 30, .int s2] w = p_ev scr 128 126 [.ref 24, .int x1, .int x2, .int x3, .int x4, z5] [.int (w.2.2 30 s0.toNatClampNeg), .int s2] w) ∧
  (∀ (scr : pX) (w : pW) (x1 : Int32) (x2 : Int32) (x3 : Int32) (x4 : Int32) (z5 : Value) (s0 : Int32) (s1 : Int32), p_ev scr 128 126 [.ref 24, .int x1, .int x2, .int x3, .int x4, z5] [.int s0, .int s1] w = p_ev scr 128 127 [.ref 24, .int x1, .int x2, .int x3, .int x4, z5] [.int (s1 + s0)] w) ∧
  (∀ (scr : pX) (w : pW) (x1 : Int32) (x2 : Int32) (x3 : Int32) (x4 : Int32) (z5 : Value) (s0 : Int32), p_ev scr 128 127 [.ref 24, .int x1, .int x2, .int x3, .int x4, z5] [.int s0] w = p_ev scr 128 129 [.ref 24, .int x1, .int x2, .int x3, .int x4, z5] [.int x4, .int s0] w) ∧
  (∀ (scr : pX) (w : pW) (x1 : Int32) (x2 : Int32) (x3 : Int32) (x4 : Int32) (z5 : Value) (s0 : Int32) (s1 : Int32), p_ev scr 128 129 [.ref 24, .int x1, .int x2, .int x3, .int x4, z5] [.int s0, .int s1] w = if s0 ≤ s1 then p_ev scr 128 136 [.ref 24, .int x1, .int x2, .int x3, .int x4, z5] [] w else p_ev scr 128 132 [.ref 24, .int x1, .int x2, .int x3, .int x4, z5] [] w) ∧
  (∀ (scr : pX) (w : pW) (x1 : Int32) (x2 : Int32) (x3 : Int32) (x4 : Int32) (z5 : Value), p_ev scr 128 132 [.ref 24, .int x1, .int x2, .int x3, .int x4, z5] [] w = p_ev scr 128 133 [.ref 24, .int x1, .int x2, .int x3, .int x4, z5] [.int (nI 1)] w) ∧
  (∀ (scr : pX) (w : pW) (x1 : Int32) (x2 : Int32) (x3 : Int32) (x4 : Int32) (z5 : Value) (s0 : Int32), p_ev scr 128 133 [.ref 24, .int x1, .int x2, .int x3, .int x4, z5] [.int s0] w = p_ev scr 128 137 [.ref 24, .int x1, .int x2, .int x3, .int x4, z5] [.int s0] w) ∧
  (∀ (scr : pX) (w : pW) (x1 : Int32) (x2 : Int32) (x3 : Int32) (x4 : Int32) (z5 : Value), p_ev scr 128 136 [.ref 24, .int x1, .int x2, .int x3, .int x4, z5] [] w = p_ev scr 128 137 [.ref 24, .int x1, .int x2, .int x3, .int x4, z5] [.int (nI 0)] w) ∧
  (∀ (scr : pX) (w : pW) (x1 : Int32) (x2 : Int32) (x3 : Int32) (x4 : Int32) (z5 : Value) (s0 : Int32), p_ev scr 128 137 [.ref 24, .int x1, .int x2, .int x3, .int x4, z5] [.int s0] w = p_ev scr 128 139 [.ref 24, .int x1, .int x2, .int x3, .int x4, .int s0] [] w) ∧
  (∀ (scr : pX) (w : pW) (x1 : Int32) (x2 : Int32) (x3 : Int32) (x4 : Int32) (x5 : Int32), p_ev scr 128 139 [.ref 24, .int x1, .int x2, .int x3, .int x4, .int x5] [] w = p_ev scr 128 140 [.ref 24, .int x1, .int x2, .int x3, .int x4, .int x5] [.ref 24] w) ∧
  (∀ (scr : pX) (w : pW) (x1 : Int32) (x2 : Int32) (x3 : Int32) (x4 : Int32) (x5 : Int32), p_ev scr 128 140 [.ref 24, .int x1, .int x2, .int x3, .int x4, .int x5] [.ref 24] w = p_ev scr 128 143 [.ref 24, .int x1, .int x2, .int x3, .int x4, .int x5] [.ref 30] w) ∧
  (∀ (scr : pX) (w : pW) (x1 : Int32) (x2 : Int32) (x3 : Int32) (x4 : Int32) (x5 : Int32), p_ev scr 128 143 [.ref 24, .int x1, .int x2, .int x3, .int x4, .int x5] [.ref 30] w = p_ev scr 128 144 [.ref 24, .int x1, .int x2, .int x3, .int x4, .int x5] [.int x3, .ref 30] w) ∧
  (∀ (scr : pX) (w : pW) (x1 : Int32) (x2 : Int32) (x3 : Int32) (x4 : Int32) (x5 : Int32) (s0 : Int32), p_ev scr 128 144 [.ref 24, .int x1, .int x2, .int x3, .int x4, .int x5] [.int s0, .ref 30] w = p_ev scr 128 146 [.ref 24, .int x1, .int x2, .int x3, .int x4, .int x5] [.int x5, .int s0, .ref 30] w) ∧
  (∀ (scr : pX) (w : pW) (x1 : Int32) (x2 : Int32) (x3 : Int32) (x4 : Int32) (x5 : Int32) (s0 : Int32) (s1 : Int32), p_ev scr 128 146 [.ref 24, .int x1, .int x2, .int x3, .int x4, .int x5] [.int s0, .int s1, .ref 30] w = if s0 = nI 0 then p_ev scr 128 171 [.ref 24, .int x1, .int x2, .int x3, .int x4, .int x5] [.int s1, .ref 30] w else p_ev scr 128 149 [.ref 24, .int x1, .int x2, .int x3, .int x4, .int x5] [.int s1, .ref 30] w) ∧
  (∀ (scr : pX) (w : pW) (x1 : Int32) (x2 : Int32) (x3 : Int32) (x4 : Int32) (x5 : Int32) (s0 : Int32), p_ev scr 128 149 [.ref 24, .int x1, .int x2, .int x3, .int x4, .int x5] [.int s0, .ref 30] w = p_ev scr 128 150 [.ref 24, .int x1, .int x2, .int x3, .int x4, .int x5] [.ref 24, .int s0, .ref 30] w) ∧
  (∀ (scr : pX) (w : pW) (x1 : Int32) (x2 : Int32) (x3 : Int32) (x4 : Int32) (x5 : Int32) (s1 : Int32), p_ev scr 128 150 [.ref 24, .int x1, .int x2, .int x3, .int x4, .int x5] [.ref 24, .int s1, .ref 30] w = p_ev scr 128 153 [.ref 24, .int x1, .int x2, .int x3, .int x4, .int x5] [.ref 30, .int s1, .ref 30] w) ∧
  (∀ (scr : pX) (w : pW) (x1 : Int32) (x2 : Int32) (x3 : Int32) (x4 : Int32) (x5 : Int32) (s1 : Int32), p_ev scr 128 153 [.ref 24, .int x1, .int x2, .int x3, .int x4, .int x5] [.ref 30, .int s1, .ref 30] w = p_ev scr 128 154 [.ref 24, .int x1, .int x2, .int x3, .int x4, .int x5] [.int (nI 2), .ref 30, .int s1, .ref 30] w) ∧
  (∀ (scr : pX) (w : pW) (x1 : Int32) (x2 : Int32) (x3 : Int32) (x4 : Int32) (x5 : Int32) (s0 : Int32) (s2 : Int32), p_ev scr 128 154 [.ref 24, .int x1, .int x2, .int x3, .int x4, .int x5] [.int s0, .ref 30, .int s2, .ref 30] w = p_ev scr 128 155 [.ref 24, .int x1, .int x2, .int x3, .int x4, .int x5] [.int x3, .int s0, .ref 30, .int s2, .ref 30] w) ∧
  (∀ (scr : pX) (w : pW) (x1 : Int32) (x2 : Int32) (x3 : Int32) (x4 : Int32) (x5 : Int32) (s0 : Int32) (s1 : Int32) (s3 : Int32), p_ev scr 128 155 [.ref 24, .int x1, .int x2, .int x3, .int x4, .int x5] [.int s0, .int s1, .ref 30, .int s3, .ref 30] w = p_ev scr 128 156 [.ref 24, .int x1, .int x2, .int x3, .int x4, .int x5] [.int (s1 * s0), .ref 30, .int s3, .ref 30] w) ∧
  (∀ (scr : pX) (w : pW) (x1 : Int32) (x2 : Int32) (x3 : Int32) (x4 : Int32) (x5 : Int32) (s0 : Int32) (s2 : Int32), p_out s0 16 = false → p_ev scr 128 156 [.ref 24, .int x1, .int x2, .int x3, .int x4, .int x5] [.int s0, .ref 30, .int s2, .ref 30] w = p_ev scr 128 157 [.ref 24, .int x1, .int x2, .int x3, .int x4, .int x5] [.int (w.2.2 30 s0.toNatClampNeg), .int s2, .ref 30] w) ∧
  (∀ (scr : pX) (w : pW) (x1 : Int32) (x2 : Int32) (x3 : Int32) (x4 : Int32) (x5 : Int32) (s0 : Int32) (s1 : Int32), p_ev scr 128 157 [.ref 24, .int x1, .int x2, .int x3, .int x4, .int x5] [.int s0, .int s1, .ref 30] w = p_ev scr 128 158 [.ref 24, .int x1, .int x2, .int x3, .int x4, .int x5] [.ref 24, .int s0, .int s1, .ref 30] w) ∧
  (∀ (scr : pX) (w : pW) (x1 : Int32) (x2 : Int32) (x3 : Int32) (x4 : Int32) (x5 : Int32) (s1 : Int32) (s2 : Int32), p_ev scr 128 158 [.ref 24, .int x1, .int x2, .int x3, .int x4, .int x5] [.ref 24, .int s1, .int s2, .ref 30] w = p_ev scr 128 161 [.ref 24, .int x1, .int x2, .int x3, .int x4, .int x5] [.ref 30, .int s1, .int s2, .ref 30] w) ∧
  (∀ (scr : pX) (w : pW) (x1 : Int32) (x2 : Int32) (x3 : Int32) (x4 : Int32) (x5 : Int32) (s1 : Int32) (s2 : Int32), p_ev scr 128 161 [.ref 24, .int x1, .int x2, .int x3, .int x4, .int x5] [.ref 30, .int s1, .int s2, .ref 30] w = p_ev scr 128 162 [.ref 24, .int x1, .int x2, .int x3, .int x4, .int x5] [.int (nI 2), .ref 30, .int s1, .int s2, .ref 30] w) ∧
  (∀ (scr : pX) (w : pW) (x1 : Int32) (x2 : Int32) (x3 : Int32) (x4 : Int32) (x5 : Int32) (s0 : Int32) (s2 : Int32) (s3 : Int32), p_ev scr 128 162 [.ref 24, .int x1, .int x2, .int x3, .int x4, .int x5] [.int s0, .ref 30, .int s2, .int s3, .ref 30] w = p_ev scr 128 163 [.ref 24, .int x1, .int x2, .int x3, .int x4, .int x5] [.int x3, .int s0, .ref 30, .int s2, .int s3, .ref 30] w) ∧
  (∀ (scr : pX) (w : pW) (x1 : Int32) (x2 : Int32) (x3 : Int32) (x4 : Int32) (x5 : Int32) (s0 : Int32) (s1 : Int32) (s3 : Int32) (s4 : Int32), p_ev scr 128 163 [.ref 24, .int x1, .int x2, .int x3, .int x4, .int x5] [.int s0, .int s1, .ref 30, .int s3, .int s4, .ref 30] w = p_ev scr 128 164 [.ref 24, .int x1, .int x2, .int x3, .int x4, .int x5] [.int (s1 * s0), .ref 30, .int s3, .int s4, .ref 30] w) ∧
  (∀ (scr : pX) (w : pW) (x1 : Int32) (x2 : Int32) (x3 : Int32) (x4 : Int32) (x5 : Int32) (s0 : Int32) (s2 : Int32) (s3 : Int32), p_ev scr 128 164 [.ref 24, .int x1, .int x2, .int x3, .int x4, .int x5] [.int s0, .ref 30, .int s2, .int s3, .ref 30] w = p_ev scr 128 165 [.ref 24, .int x1, .int x2, .int x3, .int x4, .int x5] [.int (nI 1), .int s0, .ref 30, .int s2, .int s3, .ref 30] w) ∧
  (∀ (scr : pX) (w : pW) (x1 : Int32) (x2 : Int32) (x3 : Int32) (x4 : Int32) (x5 : Int32) (s0 : Int32) (s1 : Int32) (s3 : Int32) (s4 : Int32), p_ev scr 128 165 [.ref 24, .int x1, .int x2, .int x3, .int x4, .int x5] [.int s0, .int s1, .ref 30, .int s3, .int s4, .ref 30] w = p_ev scr 128 166 [.ref 24, .int x1, .int x2, .int x3, .int x4, .int x5] [.int (s1 + s0), .ref 30, .int s3, .int s4, .ref 30] w) ∧
  (∀ (scr : pX) (w : pW) (x1 : Int32) (x2 : Int32) (x3 : Int32) (x4 : Int32) (x5 : Int32) (s0 : Int32) (s2 : Int32) (s3 : Int32), p_out s0 16 = false → p_ev scr 128 166 [.ref 24, .int x1, .int x2, .int x3, .int x4, .int x5] [.int s0, .ref 30, .int s2, .int s3, .ref 30] w = p_ev scr 128 167 [.ref 24, .int x1, .int x2, .int x3, .int x4, .int x5] [.int (w.2.2 30 s0.toNatClampNeg), .int s2, .int s3, .ref 30] w) ∧
  (∀ (scr : pX) (w : pW) (x1 : Int32) (x2 : Int32) (x3 : Int32) (x4 : Int32) (x5 : Int32) (s0 : Int32) (s1 : Int32) (s2 : Int32), p_ev scr 128 167 [.ref 24, .int x1, .int x2, .int x3, .int x4, .int x5] [.int s0, .int s1, .int s2, .ref 30] w = p_ev scr 128 168 [.ref 24, .int x1, .int x2, .int x3, .int x4, .int x5] [.int (s1 + s0), .int s2, .ref 30] w) ∧
  (∀ (scr : pX) (w : pW) (x1 : Int32) (x2 : Int32) (x3 : Int32) (x4 : Int32) (x5 : Int32) (s0 : Int32) (s1 : Int32), p_ev scr 128 168 [.ref 24, .int x1, .int x2, .int x3, .int x4, .int x5] [.int s0, .int s1, .ref 30] w = p_ev scr 128 173 [.ref 24, .int x1, .int x2, .int x3, .int x4, .int x5] [.int s0, .int s1, .ref 30] w) ∧
  (∀ (scr : pX) (w : pW) (x1 : Int32) (x2 : Int32) (x3 : Int32) (x4 : Int32) (x5 : Int32) (s0 : Int32), p_ev scr 128 171 [.ref 24, .int x1, .int x2, .int x3, .int x4, .int x5] [.int s0, .ref 30] w = p_ev scr 128 173 [.ref 24, .int x1, .int x2, .int x3, .int x4, .int x5] [.int x4, .int s0, .ref 30] w) ∧
  (∀ (scr : pX) (w : pW) (x1 : Int32) (x2 : Int32) (x3 : Int32) (x4 : Int32) (x5 : Int32) (s0 : Int32) (s1 : Int32), p_out s1 16 = false → p_ev scr 128 173 [.ref 24, .int x1, .int x2, .int x3, .int x4, .int x5] [.int s0, .int s1, .ref 30] w = p_ev scr 128 174 [.ref 24, .int x1, .int x2, .int x3, .int x4, .int x5] [] (w.1, w.2.1, p_u w.2.2 30 s1.toNatClampNeg s0)) ∧
  (∀ (scr : pX) (w : pW) (x1 : Int32) (x2 : Int32) (x3 : Int32) (x4 : Int32) (x5 : Int32), p_ev scr 128 174 [.ref 24, .int x1, .int x2, .int x3, .int x4, .int x5] [] w = p_ev scr 128 175 [.ref 24, .int x1, .int x2, .int x3, .int x4, .int x5] [.ref 24] w) ∧
  (∀ (scr : pX) (w : pW) (x1 : Int32) (x2 : Int32) (x3 : Int32) (x4 : Int32) (x5 : Int32), p_ev scr 128 175 [.ref 24, .int x1, .int x2, .int x3, .int x4, .int x5] [.ref 24] w = p_ev scr 128 178 [.ref 24, .int x1, .int x2, .int x3, .int x4, .int x5] [.ref 25] w) ∧
  (∀ (scr : pX) (w : pW) (x1 : Int32) (x2 : Int32) (x3 : Int32) (x4 : Int32) (x5 : Int32), p_ev scr 128 178 [.ref 24, .int x1, .int x2, .int x3, .int x4, .int x5] [.ref 25] w = p_ev scr 128 179 [.ref 24, .int x1, .int x2, .int x3, .int x4, .int x5] [.int x3, .ref 25] w) ∧
  (∀ (scr : pX) (w : pW) (x1 : Int32) (x2 : Int32) (x3 : Int32) (x4 : Int32) (x5 : Int32) (s0 : Int32), p_ev scr 128 179 [.ref 24, .int x1, .int x2, .int x3, .int x4, .int x5] [.int s0, .ref 25] w = p_ev scr 128 181 [.ref 24, .int x1, .int x2, .int x3, .int x4, .int x5] [.int x5, .int s0, .ref 25] w) ∧
  (∀ (scr : pX) (w : pW) (x1 : Int32) (x2 : Int32) (x3 : Int32) (x4 : Int32) (x5 : Int32) (s0 : Int32) (s1 : Int32), p_ev scr 128 181 [.ref 24, .int x1, .int x2, .int x3, .int x4, .int x5] [.int s0, .int s1, .ref 25] w = if s0 = nI 0 then p_ev scr 128 188 [.ref 24, .int x1, .int x2, .int x3, .int x4, .int x5] [.int s1, .ref 25] w else p_ev scr 128 184 [.ref 24, .int x1, .int x2, .int x3, .int x4, .int x5] [.int s1, .ref 25] w) ∧
  (∀ (scr : pX) (w : pW) (x1 : Int32) (x2 : Int32) (x3 : Int32) (x4 : Int32) (x5 : Int32) (s0 : Int32), p_ev scr 128 184 [.ref 24, .int x1, .int x2, .int x3, .int x4, .int x5] [.int s0, .ref 25] w = p_ev scr 128 185 [.ref 24, .int x1, .int x2, .int x3, .int x4, .int x5] [.int (nI 2), .int s0, .ref 25] w) ∧
  (∀ (scr : pX) (w : pW) (x1 : Int32) (x2 : Int32) (x3 : Int32) (x4 : Int32) (x5 : Int32) (s0 : Int32) (s1 : Int32), p_ev scr 128 185 [.ref 24, .int x1, .int x2, .int x3, .int x4, .int x5] [.int s0, .int s1, .ref 25] w = p_ev scr 128 189 [.ref 24, .int x1, .int x2, .int x3, .int x4, .int x5] [.int s0, .int s1, .ref 25] w) ∧
  (∀ (scr : pX) (w : pW) (x1 : Int32) (x2 : Int32) (x3 : Int32) (x4 : Int32) (x5 : Int32) (s0 : Int32), p_ev scr 128 188 [.ref 24, .int x1, .int x2, .int x3, .int x4, .int x5] [.int s0, .ref 25] w = p_ev scr 128 189 [.ref 24, .int x1, .int x2, .int x3, .int x4, .int x5] [.int (nI 1), .int s0, .ref 25] w) ∧
  (∀ (scr : pX) (w : pW) (x1 : Int32) (x2 : Int32) (x3 : Int32) (x4 : Int32) (x5 : Int32) (s0 : Int32) (s1 : Int32), p_out s1 16 = false → p_ev scr 128 189 [.ref 24, .int x1, .int x2, .int x3, .int x4, .int x5] [.int s0, .int s1, .ref 25] w = p_ev scr 128 190 [.ref 24, .int x1, .int x2, .int x3, .int x4, .int x5] [] (w.1, w.2.1, p_u w.2.2 25 s1.toNatClampNeg s0)) ∧
  (∀ (scr : pX) (w : pW) (x1 : Int32) (x2 : Int32) (x3 : Int32) (x4 : Int32) (x5 : Int32), p_ev scr 128 190 [.ref 24, .int x1, .int x2, .int x3, .int x4, .int x5] [] w = p_ev scr 128 193 [.ref 24, .int x1, .int x2, .int (x3 + (-1 : Int32)), .int x4, .int x5] [] w) ∧
  (∀ (scr : pX) (w : pW) (x1 : Int32) (x2 : Int32) (x3 : Int32) (x4 : Int32) (x5 : Int32), p_ev scr 128 193 [.ref 24, .int x1, .int x2, .int x3, .int x4, .int x5] [] w = p_ev scr 128 67 [.ref 24, .int x1, .int x2, .int x3, .int x4, .int x5] [] w) ∧
  (∀ (scr : pX) (w : pW) (x1 : Int32) (x2 : Int32) (x3 : Int32) (z4 : Value) (z5 : Value), p_ev scr 128 196 [.ref 24, .int x1, .int x2, .int x3, z4, z5] [] w = p_ev scr 128 197 [.ref 24, .int x1, .int x2, .int x3, z4, z5] [.int (nI 2)] w) ∧
  (∀ (scr : pX) (w : pW) (x1 : Int32) (x2 : Int32) (x3 : Int32) (z4 : Value) (z5 : Value) (s0 : Int32), p_ev scr 128 197 [.ref 24, .int x1, .int x2, .int x3, z4, z5] [.int s0] w = p_ev scr 128 198 [.ref 24, .int x1, .int x2, .int s0, z4, z5] [] w) ∧
  (∀ (scr : pX) (w : pW) (x1 : Int32) (x2 : Int32) (x3 : Int32) (z4 : Value) (z5 : Value) (s0 : Int32), p_ev scr 128 199 [.ref 24, .int x1, .int x2, .int x3, z4, z5] [.int s0] w = p_ev scr 128 200 [.ref 24, .int x1, .int x2, .int x3, z4, z5] [.int (nI 2), .int s0] w) ∧
  (∀ (scr : pX) (w : pW) (x1 : Int32) (x2 : Int32) (x3 : Int32) (z4 : Value) (z5 : Value) (s0 : Int32) (s1 : Int32), p_ev scr 128 200 [.ref 24, .int x1, .int x2, .int x3, z4, z5] [.int s0, .int s1] w = p_ev scr 128 201 [.ref 24, .int x1, .int x2, .int x3, z4, z5] [.int x2, .int s0, .int s1] w) ∧
  (∀ (scr : pX) (w : pW) (x1 : Int32) (x2 : Int32) (x3 : Int32) (z4 : Value) (z5 : Value) (s0 : Int32) (s1 : Int32) (s2 : Int32), p_ev scr 128 201 [.ref 24, .int x1, .int x2, .int x3, z4, z5] [.int s0, .int s1, .int s2] w = p_ev scr 128 202 [.ref 24, .int x1, .int x2, .int x3, z4, z5] [.int (s1 * s0), .int s2] w) ∧
  (∀ (scr : pX) (w : pW) (x1 : Int32) (x2 : Int32) (x3 : Int32) (z4 : Value) (z5 : Value) (s0 : Int32) (s1 : Int32), p_ev scr 128 202 [.ref 24, .int x1, .int x2, .int x3, z4, z5] [.int s0, .int s1] w = if s0 ≤ s1 then p_ev scr 128 239 [.ref 24, .int x1, .int x2, .int x3, z4, z5] [] w else p_ev scr 128 205 [.ref 24, .int x1, .int x2, .int x3, z4, z5] [] w) ∧
  (∀ (scr : pX) (w : pW) (x1 : Int32) (x2 : Int32) (x3 : Int32) (z4 : Value) (z5 : Value), p_ev scr 128 205 [.ref 24, .int x1, .int x2, .int x3, z4, z5] [] w = p_ev scr 128 206 [.ref 24, .int x1, .int x2, .int x3, z4, z5] [.ref 24] w) ∧
  (∀ (scr : pX) (w : pW) (x1 : Int32) (x2 : Int32) (x3 : Int32) (z4 : Value) (z5 : Value), p_ev scr 128 206 [.ref 24, .int x1, .int x2, .int x3, z4, z5] [.ref 24] w = p_ev scr 128 209 [.ref 24, .int x1, .int x2, .int x3, z4, z5] [.ref 25] w) ∧
  (∀ (scr : pX) (w : pW) (x1 : Int32) (x2 : Int32) (x3 : Int32) (z4 : Value) (z5 : Value), p_ev scr 128 209 [.ref 24, .int x1, .int x2, .int x3, z4, z5] [.ref 25] w = p_ev scr 128 210 [.ref 24, .int x1, .int x2, .int x3, z4, z5] [.int x3, .ref 25] w) ∧
  (∀ (scr : pX) (w : pW) (x1 : Int32) (x2 : Int32) (x3 : Int32) (z4 : Value) (z5 : Value) (s0 : Int32), p_ev scr 128 210 [.ref 24, .int x1, .int x2, .int x3, z4, z5] [.int s0, .ref 25] w = p_ev scr 128 211 [.ref 24, .int x1, .int x2, .int x3, z4, z5] [.ref 24, .int s0, .ref 25] w) ∧
  (∀ (scr : pX) (w : pW) (x1 : Int32) (x2 : Int32) (x3 : Int32) (z4 : Value) (z5 : Value) (s1 : Int32), p_ev scr 128 211 [.ref 24, .int x1, .int x2, .int x3, z4, z5] [.ref 24, .int s1, .ref 25] w = p_ev scr 128 214 [.ref 24, .int x1, .int x2, .int x3, z4, z5] [.ref 25, .int s1, .ref 25] w) ∧
  (∀ (scr : pX) (w : pW) (x1 : Int32) (x2 : Int32) (x3 : Int32) (z4 : Value) (z5 : Value) (s1 : Int32), p_ev scr 128 214 [.ref 24, .int x1, .int x2, .int x3, z4, z5] [.ref 25, .int s1, .ref 25] w = p_ev scr 128 215 [.ref 24, .int x1, .int x2, .int x3, z4, z5] [.int x3, .ref 25, .int s1, .ref 25] w) ∧
  (∀ (scr : pX) (w : pW) (x1 : Int32) (x2 : Int32) (x3 : Int32) (z4 : Value) (z5 : Value) (s0 : Int32) (s2 : Int32), p_ev scr 128 215 [.ref 24, .int x1, .int x2, .int x3, z4, z5] [.int s0, .ref 25, .int s2, .ref 25] w = p_ev scr 128 216 [.ref 24, .int x1, .int x2, .int x3, z4, z5] [.int (nI 2), .int s0, .ref 25, .int s2, .ref 25] w) ∧
  (∀ (scr : pX) (w : pW) (x1 : Int32) (x2 : Int32) (x3 : Int32) (z4 : Value) (z5 : Value) (s0 : Int32) (s1 : Int32) (s3 : Int32), ¬ s0 = 0 → p_ev scr 128 216 [.ref 24, .int x1, .int x2, .int x3, z4, z5] [.int s0, .int s1, .ref 25, .int s3, .ref 25] w = p_ev scr 128 217 [.ref 24, .int x1, .int x2, .int x3, z4, z5] [.int (s1 / s0), .ref 25, .int s3, .ref 25] w) ∧
  (∀ (scr : pX) (w : pW) (x1 : Int32) (x2 : Int32) (x3 : Int32) (z4 : Value) (z5 : Value) (s0 : Int32) (s2 : Int32), p_out s0 16 = false → p_ev scr 128 217 [.ref 24, .int x1, .int x2, .int x3, z4, z5] [.int s0, .ref 25, .int s2, .ref 25] w = p_ev scr 128 218 [.ref 24, .int x1, .int x2, .int x3, z4, z5] [.int (w.2.2 25 s0.toNatClampNeg), .int s2, .ref 25] w) ∧
  (∀ (scr : pX) (w : pW) (x1 : Int32) (x2 : Int32) (x3 : Int32) (z4 : Value) (z5 : Value) (s0 : Int32) (s1 : Int32), p_ev scr 128 218 [.ref 24, .int x1, .int x2, .int x3, z4, z5] [.int s0, .int s1, .ref 25] w = p_ev scr 128 219 [.ref 24, .int x1, .int x2, .int x3, z4, z5] [.int (nI 2), .int s0, .int s1, .ref 25] w) ∧
  (∀ (scr : pX) (w : pW) (x1 : Int32) (x2 : Int32) (x3 : Int32) (z4 : Value) (z5 : Value) (s0 : Int32) (s1 : Int32) (s2 : Int32), p_ev scr 128 219 [.ref 24, .int x1, .int x2, .int x3, z4, z5] [.int s0, .int s1, .int s2, .ref 25] w = if ¬ s1 = s0 then p_ev scr 128 231 [.ref 24, .int x1, .int x2, .int x3, z4, z5] [.int s2, .ref 25] w else p_ev scr 128 222 [.ref 24, .int x1, .int x2, .int x3, z4, z5] [.int s2, .ref 25] w) ∧
  (∀ (scr : pX) (w : pW) (x1 : Int32) (x2 : Int32) (x3 : Int32) (z4 : Value) (z5 : Value) (s0 : Int32), p_ev scr 128 222 [.ref 24, .int x1, .int x2, .int x3, z4, z5] [.int s0, .ref 25] w = p_ev scr 128 223 [.ref 24, .int x1, .int x2, .int x3, z4, z5] [.ref 24, .int s0, .ref 25] w) ∧
  (∀ (scr : pX) (w : pW) (x1 : Int32) (x2 : Int32) (x3 : Int32) (z4 : Value) (z5 : Value) (s1 : Int32), p_ev scr 128 223 [.ref 24, .int x1, .int x2, .int x3, z4, z5] [.ref 24, .int s1, .ref 25] w = p_ev scr 128 226 [.ref 24, .int x1, .int x2, .int x3, z4, z5] [.ref 25, .int s1, .ref 25] w) ∧
  (∀ (scr : pX) (w : pW) (x1 : Int32) (x2 : Int32) (x3 : Int32) (z4 : Value) (z5 : Value) (s1 : Int32), p_ev scr 128 226 [.ref 24, .int x1, .int x2, .int x3, z4, z5] [.ref 25, .int s1, .ref 25] w = p_ev scr 128 227 [.ref 24, .int x1, .int x2, .int x3, z4, z5] [.int x3, .ref 25, .int s1, .ref 25] w) ∧
  (∀ (scr : pX) (w : pW) (x1 : Int32) (x2 : Int32) (x3 : Int32) (z4 : Value) (z5 : Value) (s0 : Int32) (s2 : Int32), p_out s0 16 = false → p_ev scr 128 227 [.ref 24, .int x1, .int x2, .int x3, z4, z5] [.int s0, .ref 25, .int s2, .ref 25] w = p_ev scr 128 228 [.ref 24, .int x1, .int x2, .int x3, z4, z5] [.int (w.2.2 25 s0.toNatClampNeg), .int s2, .ref 25] w) ∧
  (∀ (scr : pX) (w : pW) (x1 : Int32) (x2 : Int32) (x3 : Int32) (z4 : Value) (z5 : Value) (s0 : Int32) (s1 : Int32), p_ev scr 128 228 [.ref 24, .int x1, .int x2, .int x3, z4, z5] [.int s0, .int s1, .ref 25] w = p_ev scr 128 232 [.ref 24, .int x1, .int x2, .int x3, z4, z5] [.int s0, .int s1, .ref 25] w) ∧
  (∀ (scr : pX) (w : pW) (x1 : Int32) (x2 : Int32) (x3 : Int32) (z4 : Value) (z5 : Value) (s0 : Int32), p_ev scr 128 231 [.ref 24, .int x1, .int x2, .int x3, z4, z5] [.int s0, .ref 25] w = p_ev scr 128 232 [.ref 24, .int x1, .int x2, .int x3, z4, z5] [.int (nI 0), .int s0, .ref 25] w) ∧
  (∀ (scr : pX) (w : pW) (x1 : Int32) (x2 : Int32) (x3 : Int32) (z4 : Value) (z5 : Value) (s0 : Int32) (s1 : Int32), p_out s1 16 = false → p_ev scr 128 232 [.ref 24, .int x1, .int x2, .int x3, z4, z5] [.int s0, .int s1, .ref 25] w = p_ev scr 128 233 [.ref 24, .int x1, .int x2, .int x3, z4, z5] [] (w.1, w.2.1, p_u w.2.2 25 s1.toNatClampNeg s0)) ∧
  (∀ (scr : pX) (w : pW) (x1 : Int32) (x2 : Int32) (x3 : Int32) (z4 : Value) (z5 : Value), p_ev scr 128 233 [.ref 24, .int x1, .int x2, .int x3, z4, z5] [] w = p_ev scr 128 236 [.ref 24, .int x1, .int x2, .int (x3 + (nI 1)), z4, z5] [] w) ∧
  (∀ (scr : pX) (w : pW) (x1 : Int32) (x2 : Int32) (x3 : Int32) (z4 : Value) (z5 : Value), p_ev scr 128 236 [.ref 24, .int x1, .int x2, .int x3, z4, z5] [] w = p_ev scr 128 198 [.ref 24, .int x1, .int x2, .int x3, z4, z5] [] w) ∧
  (∀ (scr : pX) (w : pW) (x1 : Int32) (x2 : Int32) (x3 : Int32) (z4 : Value) (z5 : Value), p_ev scr 128 239 [.ref 24, .int x1, .int x2, .int x3, z4, z5] [] w = p_ev scr 128 240 [.ref 24, .int x1, .int x2, .int x3, z4, z5] [.ref 24] w) ∧
  (∀ (scr : pX) (w : pW) (x1 : Int32) (x2 : Int32) (x3 : Int32) (z4 : Value) (z5 : Value), p_ev scr 128 240 [.ref 24, .int x1, .int x2, .int x3, z4, z5] [.ref 24] w = p_ev scr 128 243 [.ref 24, .int x1, .int x2, .int x3, z4, z5] [.ref 30] w) ∧
  (∀ (scr : pX) (w : pW) (x1 : Int32) (x2 : Int32) (x3 : Int32) (z4 : Value) (z5 : Value), p_ev scr 128 243 [.ref 24, .int x1, .int x2, .int x3, z4, z5] [.ref 30] w = p_ev scr 128 244 [.ref 24, .int x1, .int x2, .int x3, z4, z5] [.int (nI 1), .ref 30] w) ∧
  (∀ (scr : pX) (w : pW) (x1 : Int32) (x2 : Int32) (x3 : Int32) (z4 : Value) (z5 : Value) (s0 : Int32), p_out s0 16 = false → p_ev scr 128 244 [.ref 24, .int x1, .int x2, .int x3, z4, z5] [.int s0, .ref 30] w = p_ev scr 128 245 [.ref 24, .int x1, .int x2, .int x3, z4, z5] [.int (w.2.2 30 s0.toNatClampNeg)] w) ∧
  (∀ (scr : pX) (w : pW) (x1 : Int32) (x2 : Int32) (x3 : Int32) (z4 : Value) (z5 : Value) (s0 : Int32), p_ev scr 128 245 [.ref 24, .int x1, .int x2, .int x3, z4, z5] [.int s0] w = some (.inl (some (.int s0)), w, 0)) :=
  ⟨fun _ _ _ => p_r (by decide +kernel : p_at 128 0 = some (.aload_n 0)) rfl,
  fun _ _ _ => p_r (by decide +kernel : p_at 128 1 = some (.iconst 0)) rfl,
  fun _ _ _ _ => p_rpf (by decide +kernel : p_at 128 2 = some (.putfield 63)) (by decide +kernel : p_fld (p_own 128) 63 = some (5, 4)) (rfl : p_ob 24 = some (.inr (5, [some 25, some 26, none, none, none, some 27, some 28, some 29, some 30, some 31, some 32, some 33, some 34, some 35, some 36, some 37, some 38, some 39, none, none, some 40]))) rfl,
  fun _ _ _ => p_r (by decide +kernel : p_at 128 5 = some (.iload_n 1)) rfl,
  fun _ _ _ _ => p_r (by decide +kernel : p_at 128 6 = some (.iconst 1)) rfl,
  fun _ _ _ _ _ => p_r (by decide +kernel : p_at 128 7 = some (.iconst 3)) rfl,
  fun _ _ _ _ _ _ => p_rcs (nl := 3) (by decide +kernel : p_at 128 8 = some (.invokestatic 72)) (by decide +kernel : p_inv (p_own 128) 72 = some (1, 97, 3)) (by decide +kernel) rfl rfl (Nat.le_of_ble_eq_true rfl) (Nat.le_of_ble_eq_true rfl) (Nat.le_of_ble_eq_true rfl) rfl,
  fun _ _ _ _ => p_rb1 (c := fun x => decide (¬ x = 0)) (off := 9) (by decide +kernel : p_at 128 11 = some (.ifCond .ne 9)) (by decide +kernel) rfl rfl rfl,
  fun _ _ _ => p_r (by decide +kernel : p_at 128 14 = some (.aload_n 0)) rfl,
  fun _ _ _ => p_r (by decide +kernel : p_at 128 15 = some (.iconst 1)) rfl,
  fun _ _ _ _ => p_rcv (nl := 2) (by decide +kernel : p_at 128 16 = some (.invokevirtual 76)) (by decide +kernel : p_inv (p_own 128) 76 = some (1, 96, 2)) (by decide +kernel) (rfl : p_ob 24 = some (.inr (5, [some 25, some 26, none, none, none, some 27, some 28, some 29, some 30, some 31, some 32, some 33, some 34, some 35, some 36, some 37, some 38, some 39, none, none, some 40]))) rfl rfl (Nat.le_of_ble_eq_true rfl) (Nat.le_of_ble_eq_true rfl) (Nat.le_of_ble_eq_true rfl) rfl,
  fun _ _ _ _ => p_riret (by decide +kernel : p_at 128 19 = some (.ireturn)) (by decide +kernel),
  fun _ _ _ => p_r (by decide +kernel : p_at 128 20 = some (.aload_n 0)) rfl,
  fun _ _ _ => p_r (by decide +kernel : p_at 128 21 = some (.iconst 1)) rfl,
  fun _ _ _ _ => p_rcv (nl := 4) (by decide +kernel : p_at 128 22 = some (.invokevirtual 146)) (by decide +kernel : p_inv (p_own 128) 146 = some (1, 119, 2)) (by decide +kernel) (rfl : p_ob 24 = some (.inr (5, [some 25, some 26, none, none, none, some 27, some 28, some 29, some 30, some 31, some 32, some 33, some 34, some 35, some 36, some 37, some 38, some 39, none, none, some 40]))) rfl rfl (Nat.le_of_ble_eq_true rfl) (Nat.le_of_ble_eq_true rfl) (Nat.le_of_ble_eq_true rfl) rfl,
  fun _ _ _ _ => p_r (by decide +kernel : p_at 128 25 = some (.pop)) rfl,
  fun _ _ _ => p_r (by decide +kernel : p_at 128 26 = some (.iconst 1)) rfl,
  fun _ _ _ _ => p_r (by decide +kernel : p_at 128 27 = some (.iload_n 1)) rfl,
  fun _ _ _ _ _ => p_r (by decide +kernel : p_at 128 28 = some (.ishl)) rfl,
  fun _ _ _ _ => p_r (by decide +kernel : p_at 128 29 = some (.istore_n 2)) rfl,
  fun _ _ _ _ => p_r (by decide +kernel : p_at 128 30 = some (.iconst 1)) rfl,
  fun _ _ _ _ _ => p_r (by decide +kernel : p_at 128 31 = some (.istore_n 3)) rfl,
  fun _ _ _ _ _ _ => p_r (by decide +kernel : p_at 128 33 = some (.iload_n 2)) rfl,
  fun _ _ _ _ _ _ _ => p_rb2 (c := fun x y => decide (y ≤ x)) (off := 27) (by decide +kernel : p_at 128 34 = some (.if_icmp .ge 27)) (by decide +kernel) rfl rfl rfl,
  fun _ _ _ _ _ => p_r (by decide +kernel : p_at 128 37 = some (.aload_n 0)) rfl,
  fun _ _ _ _ _ => p_r (by decide +kernel : p_at 128 38 = some (.iload_n 3)) rfl,
  fun _ _ _ _ _ _ => p_rcv (nl := 4) (by decide +kernel : p_at 128 39 = some (.invokevirtual 113)) (by decide +kernel : p_inv (p_own 128) 113 = some (1, 101, 2)) (by decide +kernel) (rfl : p_ob 24 = some (.inr (5, [some 25, some 26, none, none, none, some 27, some 28, some 29, some 30, some 31, some 32, some 33, some 34, some 35, some 36, some 37, some 38, some 39, none, none, some 40]))) rfl rfl (Nat.le_of_ble_eq_true rfl) (Nat.le_of_ble_eq_true rfl) (Nat.le_of_ble_eq_true rfl) rfl,
  fun _ _ _ _ _ _ => p_r (by decide +kernel : p_at 128 42 = some (.iconst 1)) rfl,
  fun _ _ _ _ _ _ _ => p_rb2 (c := fun x y => decide (x ≤ y)) (off := 12) (by decide +kernel : p_at 128 43 = some (.if_icmp .le 12)) (by decide +kernel) rfl rfl rfl,
  fun _ _ _ _ _ => p_r (by decide +kernel : p_at 128 46 = some (.aload_n 0)) rfl,
  fun _ _ _ _ _ => p_r (by decide +kernel : p_at 128 47 = some (.aload_n 0)) rfl,
  fun _ _ _ _ _ => p_rgf (f := some 26) (by decide +kernel : p_at 128 48 = some (.getfield 13)) (by decide +kernel : p_fld (p_own 128) 13 = some (5, 1)) (rfl : p_ob 24 = some (.inr (5, [some 25, some 26, none, none, none, some 27, some 28, some 29, some 30, some 31, some 32, some 33, some 34, some 35, some 36, some 37, some 38, some 39, none, none, some 40]))) rfl,
  fun _ _ _ _ _ => p_r (by decide +kernel : p_at 128 51 = some (.iload_n 3)) rfl,
  fun _ _ _ _ _ _ => p_rcv (nl := 5) (by decide +kernel : p_at 128 52 = some (.invokevirtual 139)) (by decide +kernel : p_inv (p_own 128) 139 = some (1, 110, 3)) (by decide +kernel) (rfl : p_ob 24 = some (.inr (5, [some 25, some 26, none, none, none, some 27, some 28, some 29, some 30, some 31, some 32, some 33, some 34, some 35, some 36, some 37, some 38, some 39, none, none, some 40]))) rfl rfl (Nat.le_of_ble_eq_true rfl) (Nat.le_of_ble_eq_true rfl) (Nat.le_of_ble_eq_true rfl) rfl,
  fun _ _ _ _ _ => p_r (by decide +kernel : p_at 128 55 = some (.iinc 3 1)) rfl,
  fun _ _ _ _ _ => p_rgo (by decide +kernel : p_at 128 58 = some (.goto (-26))) (by decide +kernel),
  fun _ _ _ _ _ => p_r (by decide +kernel : p_at 128 61 = some (.iconst 2)) rfl,
  fun _ _ _ _ _ _ => p_r (by decide +kernel : p_at 128 62 = some (.iload_n 2)) rfl,
  fun _ _ _ _ _ _ _ => p_r (by decide +kernel : p_at 128 63 = some (.imul)) rfl,
  fun _ _ _ _ _ _ => p_r (by decide +kernel : p_at 128 64 = some (.iconst 1)) rfl,
  fun _ _ _ _ _ _ _ => p_r (by decide +kernel : p_at 128 65 = some (.isub)) rfl,
  fun _ _ _ _ _ _ => p_r (by decide +kernel : p_at 128 66 = some (.istore_n 3)) rfl,
  fun _ _ _ _ _ _ _ _ => p_rb1 (c := fun x => decide (x ≤ 0)) (off := 128) (by decide +kernel : p_at 128 68 = some (.ifCond .le 128)) (by decide +kernel) rfl rfl rfl,
  fun _ _ _ _ _ _ _ => p_r (by decide +kernel : p_at 128 71 = some (.aload_n 0)) rfl,
  fun _ _ _ _ _ _ _ => p_r (by decide +kernel : p_at 128 72 = some (.iload_n 3)) rfl,
  fun _ _ _ _ _ _ _ _ => p_rcv (nl := 4) (by decide +kernel : p_at 128 73 = some (.invokevirtual 113)) (by decide +kernel : p_inv (p_own 128) 113 = some (1, 101, 2)) (by decide +kernel) (rfl : p_ob 24 = some (.inr (5, [some 25, some 26, none, none, none, some 27, some 28, some 29, some 30, some 31, some 32, some 33, some 34, some 35, some 36, some 37, some 38, some 39, none, none, some 40]))) rfl rfl (Nat.le_of_ble_eq_true rfl) (Nat.le_of_ble_eq_true rfl) (Nat.le_of_ble_eq_true rfl) rfl,
  fun _ _ _ _ _ _ _ _ => p_rb1 (c := fun x => decide (x ≤ 0)) (off := 15) (by decide +kernel : p_at 128 76 = some (.ifCond .le 15)) (by decide +kernel) rfl rfl rfl,
  fun _ _ _ _ _ _ _ => p_r (by decide +kernel : p_at 128 79 = some (.aload_n 0)) rfl,
  fun _ _ _ _ _ _ _ => p_r (by decide +kernel : p_at 128 80 = some (.aload_n 0)) rfl,
  fun _ _ _ _ _ _ _ => p_rgf (f := some 26) (by decide +kernel : p_at 128 81 = some (.getfield 13)) (by decide +kernel : p_fld (p_own 128) 13 = some (5, 1)) (rfl : p_ob 24 = some (.inr (5, [some 25, some 26, none, none, none, some 27, some 28, some 29, some 30, some 31, some 32, some 33, some 34, some 35, some 36, some 37, some 38, some 39, none, none, some 40]))) rfl,
  fun _ _ _ _ _ _ _ => p_r (by decide +kernel : p_at 128 84 = some (.iload_n 3)) rfl,
  fun _ _ _ _ _ _ _ _ => p_rcv (nl := 5) (by decide +kernel : p_at 128 85 = some (.invokevirtual 153)) (by decide +kernel : p_inv (p_own 128) 153 = some (1, 125, 3)) (by decide +kernel) (rfl : p_ob 24 = some (.inr (5, [some 25, some 26, none, none, none, some 27, some 28, some 29, some 30, some 31, some 32, some 33, some 34, some 35, some 36, some 37, some 38, some 39, none, none, some 40]))) rfl rfl (Nat.le_of_ble_eq_true rfl) (Nat.le_of_ble_eq_true rfl) (Nat.le_of_ble_eq_true rfl) rfl,
  fun _ _ _ _ _ _ _ _ => p_rgo (by decide +kernel : p_at 128 88 = some (.goto 4)) (by decide +kernel),
  fun _ _ _ _ _ _ _ => p_r (by decide +kernel : p_at 128 91 = some (.iconst 0)) rfl,
  fun _ _ _ _ _ _ _ _ => p_r (by decide +kernel : p_at 128 92 = some (.istore 4)) rfl,
  fun _ _ _ _ _ _ _ => p_r (by decide +kernel : p_at 128 94 = some (.iload_n 3)) rfl,
  fun _ _ _ _ _ _ _ _ => p_r (by decide +kernel : p_at 128 95 = some (.iload_n 2)) rfl,
  fun _ _ _ _ _ _ _ _ _ => p_rb2 (c := fun x y => decide (y ≤ x)) (off := 40) (by decide +kernel : p_at 128 96 = some (.if_icmp .ge 40)) (by decide +kernel) rfl rfl rfl,
  fun _ _ _ _ _ _ _ => p_r (by decide +kernel : p_at 128 99 = some (.aload_n 0)) rfl,
  fun _ _ _ _ _ _ _ => p_r (by decide +kernel : p_at 128 100 = some (.iload_n 3)) rfl,
  fun _ _ _ _ _ _ _ _ => p_rcv (nl := 4) (by decide +kernel : p_at 128 101 = some (.invokevirtual 113)) (by decide +kernel : p_inv (p_own 128) 113 = some (1, 101, 2)) (by decide +kernel) (rfl : p_ob 24 = some (.inr (5, [some 25, some 26, none, none, none, some 27, some 28, some 29, some 30, some 31, some 32, some 33, some 34, some 35, some 36, some 37, some 38, some 39, none, none, some 40]))) rfl rfl (Nat.le_of_ble_eq_true rfl) (Nat.le_of_ble_eq_true rfl) (Nat.le_of_ble_eq_true rfl) rfl,
  fun _ _ _ _ _ _ _ _ => p_r (by decide +kernel : p_at 128 104 = some (.iconst 1)) rfl,
  fun _ _ _ _ _ _ _ _ _ => p_rb2 (c := fun x y => decide (x ≤ y)) (off := 31) (by decide +kernel : p_at 128 105 = some (.if_icmp .le 31)) (by decide +kernel) rfl rfl rfl,
  fun _ _ _ _ _ _ _ => p_r (by decide +kernel : p_at 128 108 = some (.aload_n 0)) rfl,
  fun _ _ _ _ _ _ _ => p_rgf (f := some 30) (by decide +kernel : p_at 128 109 = some (.getfield 30)) (by decide +kernel : p_fld (p_own 128) 30 = some (5, 8)) (rfl : p_ob 24 = some (.inr (5, [some 25, some 26, none, none, none, some 27, some 28, some 29, some 30, some 31, some 32, some 33, some 34, some 35, some 36, some 37, some 38, some 39, none, none, some 40]))) rfl,
  fun _ _ _ _ _ _ _ => p_r (by decide +kernel : p_at 128 112 = some (.iconst 2)) rfl,
  fun _ _ _ _ _ _ _ _ => p_r (by decide +kernel : p_at 128 113 = some (.iload_n 3)) rfl,
  fun _ _ _ _ _ _ _ _ _ => p_r (by decide +kernel : p_at 128 114 = some (.imul)) rfl,
  fun _ _ _ _ _ _ _ _ hp => p_riald (by decide +kernel : p_at 128 115 = some (.iaload)) (rfl : p_ob 30 = some (.inl (1, 16))) hp,
  fun _ _ _ _ _ _ _ _ => p_r (by decide +kernel : p_at 128 116 = some (.aload_n 0)) rfl,
  fun _ _ _ _ _ _ _ _ => p_rgf (f := some 30) (by decide +kernel : p_at 128 117 = some (.getfield 30)) (by decide +kernel : p_fld (p_own 128) 30 = some (5, 8)) (rfl : p_ob 24 = some (.inr (5, [some 25, some 26, none, none, none, some 27, some 28, some 29, some 30, some 31, some 32, some 33, some 34, some 35, some 36, some 37, some 38, some 39, none, none, some 40]))) rfl,
  fun _ _ _ _ _ _ _ _ => p_r (by decide +kernel : p_at 128 120 = some (.iconst 2)) rfl,
  fun _ _ _ _ _ _ _ _ _ => p_r (by decide +kernel : p_at 128 121 = some (.iload_n 3)) rfl,
  fun _ _ _ _ _ _ _ _ _ _ => p_r (by decide +kernel : p_at 128 122 = some (.imul)) rfl,
  fun _ _ _ _ _ _ _ _ _ => p_r (by decide +kernel : p_at 128 123 = some (.iconst 1)) rfl,
  fun _ _ _ _ _ _ _ _ _ _ => p_r (by decide +kernel : p_at 128 124 = some (.iadd)) rfl,
  fun _ _ _ _ _ _ _ _ _ hp => p_riald (by decide +kernel : p_at 128 125 = some (.iaload)) (rfl : p_ob 30 = some (.inl (1, 16))) hp,
  fun _ _ _ _ _ _ _ _ _ => p_r (by decide +kernel : p_at 128 126 = some (.iadd)) rfl,
  fun _ _ _ _ _ _ _ _ => p_r (by decide +kernel : p_at 128 127 = some (.iload 4)) rfl,
  fun _ _ _ _ _ _ _ _ _ => p_rb2 (c := fun x y => decide (y ≤ x)) (off := 7) (by decide +kernel : p_at 128 129 = some (.if_icmp .ge 7)) (by decide +kernel) rfl rfl rfl,
  fun _ _ _ _ _ _ _ => p_r (by decide +kernel : p_at 128 132 = some (.iconst 1)) rfl,
  fun _ _ _ _ _ _ _ _ => p_rgo (by decide +kernel : p_at 128 133 = some (.goto 4)) (by decide +kernel),
  fun _ _ _ _ _ _ _ => p_r (by decide +kernel : p_at 128 136 = some (.iconst 0)) rfl,
  fun _ _ _ _ _ _ _ _ => p_r (by decide +kernel : p_at 128 137 = some (.istore 5)) rfl,
  fun _ _ _ _ _ _ _ => p_r (by decide +kernel : p_at 128 139 = some (.aload_n 0)) rfl,
  fun _ _ _ _ _ _ _ => p_rgf (f := some 30) (by decide +kernel : p_at 128 140 = some (.getfield 30)) (by decide +kernel : p_fld (p_own 128) 30 = some (5, 8)) (rfl : p_ob 24 = some (.inr (5, [some 25, some 26, none, none, none, some 27, some 28, some 29, some 30, some 31, some 32, some 33, some 34, some 35, some 36, some 37, some 38, some 39, none, none, some 40]))) rfl,
  fun _ _ _ _ _ _ _ => p_r (by decide +kernel : p_at 128 143 = some (.iload_n 3)) rfl,
  fun _ _ _ _ _ _ _ _ => p_r (by decide +kernel : p_at 128 144 = some (.iload 5)) rfl,
  fun _ _ _ _ _ _ _ _ _ => p_rb1 (c := fun x => decide (x = 0)) (off := 25) (by decide +kernel : p_at 128 146 = some (.ifCond .eq 25)) (by decide +kernel) rfl rfl rfl,
  fun _ _ _ _ _ _ _ _ => p_r (by decide +kernel : p_at 128 149 = some (.aload_n 0)) rfl,
  fun _ _ _ _ _ _ _ _ => p_rgf (f := some 30) (by decide +kernel : p_at 128 150 = some (.getfield 30)) (by decide +kernel : p_fld (p_own 128) 30 = some (5, 8)) (rfl : p_ob 24 = some (.inr (5, [some 25, some 26, none, none, none, some 27, some 28, some 29, some 30, some 31, some 32, some 33, some 34, some 35, some 36, some 37, some 38, some 39, none, none, some 40]))) rfl,
  fun _ _ _ _ _ _ _ _ => p_r (by decide +kernel : p_at 128 153 = some (.iconst 2)) rfl,
  fun _ _ _ _ _ _ _ _ _ => p_r (by decide +kernel : p_at 128 154 = some (.iload_n 3)) rfl,
  fun _ _ _ _ _ _ _ _ _ _ => p_r (by decide +kernel : p_at 128 155 = some (.imul)) rfl,
  fun _ _ _ _ _ _ _ _ _ hp => p_riald (by decide +kernel : p_at 128 156 = some (.iaload)) (rfl : p_ob 30 = some (.inl (1, 16))) hp,
  fun _ _ _ _ _ _ _ _ _ => p_r (by decide +kernel : p_at 128 157 = some (.aload_n 0)) rfl,
  fun _ _ _ _ _ _ _ _ _ => p_rgf (f := some 30) (by decide +kernel : p_at 128 158 = some (.getfield 30)) (by decide +kernel : p_fld (p_own 128) 30 = some (5, 8)) (rfl : p_ob 24 = some (.inr (5, [some 25, some 26, none, none, none, some 27, some 28, some 29, some 30, some 31, some 32, some 33, some 34, some 35, some 36, some 37, some 38, some 39, none, none, some 40]))) rfl,
  fun _ _ _ _ _ _ _ _ _ => p_r (by decide +kernel : p_at 128 161 = some (.iconst 2)) rfl,
  fun _ _ _ _ _ _ _ _ _ _ => p_r (by decide +kernel : p_at 128 162 = some (.iload_n 3)) rfl,
  fun _ _ _ _ _ _ _ _ _ _ _ => p_r (by decide +kernel : p_at 128 163 = some (.imul)) rfl,
  fun _ _ _ _ _ _ _ _ _ _ => p_r (by decide +kernel : p_at 128 164 = some (.iconst 1)) rfl,
  fun _ _ _ _ _ _ _ _ _ _ _ => p_r (by decide +kernel : p_at 128 165 = some (.iadd)) rfl,
  fun _ _ _ _ _ _ _ _ _ _ hp => p_riald (by decide +kernel : p_at 128 166 = some (.iaload)) (rfl : p_ob 30 = some (.inl (1, 16))) hp,
  fun _ _ _ _ _ _ _ _ _ _ => p_r (by decide +kernel : p_at 128 167 = some (.iadd)) rfl,
  fun _ _ _ _ _ _ _ _ _ => p_rgo (by decide +kernel : p_at 128 168 = some (.goto 5)) (by decide +kernel),
  fun _ _ _ _ _ _ _ _ => p_r (by decide +kernel : p_at 128 171 = some (.iload 4)) rfl,
  fun _ _ _ _ _ _ _ _ _ hp => p_riast (by decide +kernel : p_at 128 173 = some (.iastore)) (rfl : p_ob 30 = some (.inl (1, 16))) hp,
  fun _ _ _ _ _ _ _ => p_r (by decide +kernel : p_at 128 174 = some (.aload_n 0)) rfl,
  fun _ _ _ _ _ _ _ => p_rgf (f := some 25) (by decide +kernel : p_at 128 175 = some (.getfield 7)) (by decide +kernel : p_fld (p_own 128) 7 = some (5, 0)) (rfl : p_ob 24 = some (.inr (5, [some 25, some 26, none, none, none, some 27, some 28, some 29, some 30, some 31, some 32, some 33, some 34, some 35, some 36, some 37, some 38, some 39, none, none, some 40]))) rfl,
  fun _ _ _ _ _ _ _ => p_r (by decide +kernel : p_at 128 178 = some (.iload_n 3)) rfl,
  fun _ _ _ _ _ _ _ _ => p_r (by decide +kernel : p_at 128 179 = some (.iload 5)) rfl,
  fun _ _ _ _ _ _ _ _ _ => p_rb1 (c := fun x => decide (x = 0)) (off := 7) (by decide +kernel : p_at 128 181 = some (.ifCond .eq 7)) (by decide +kernel) rfl rfl rfl,
  fun _ _ _ _ _ _ _ _ => p_r (by decide +kernel : p_at 128 184 = some (.iconst 2)) rfl,
  fun _ _ _ _ _ _ _ _ _ => p_rgo (by decide +kernel : p_at 128 185 = some (.goto 4)) (by decide +kernel),
  fun _ _ _ _ _ _ _ _ => p_r (by decide +kernel : p_at 128 188 = some (.iconst 1)) rfl,
  fun _ _ _ _ _ _ _ _ _ hp => p_riast (by decide +kernel : p_at 128 189 = some (.iastore)) (rfl : p_ob 25 = some (.inl (1, 16))) hp,
  fun _ _ _ _ _ _ _ => p_r (by decide +kernel : p_at 128 190 = some (.iinc 3 (-1))) rfl,
  fun _ _ _ _ _ _ _ => p_rgo (by decide +kernel : p_at 128 193 = some (.goto (-126))) (by decide +kernel),
  fun _ _ _ _ _ _ _ => p_r (by decide +kernel : p_at 128 196 = some (.iconst 2)) rfl,
  fun _ _ _ _ _ _ _ _ => p_r (by decide +kernel : p_at 128 197 = some (.istore_n 3)) rfl,
  fun _ _ _ _ _ _ _ _ => p_r (by decide +kernel : p_at 128 199 = some (.iconst 2)) rfl,
  fun _ _ _ _ _ _ _ _ _ => p_r (by decide +kernel : p_at 128 200 = some (.iload_n 2)) rfl,
  fun _ _ _ _ _ _ _ _ _ _ => p_r (by decide +kernel : p_at 128 201 = some (.imul)) rfl,
  fun _ _ _ _ _ _ _ _ _ => p_rb2 (c := fun x y => decide (y ≤ x)) (off := 37) (by decide +kernel : p_at 128 202 = some (.if_icmp .ge 37)) (by decide +kernel) rfl rfl rfl,
  fun _ _ _ _ _ _ _ => p_r (by decide +kernel : p_at 128 205 = some (.aload_n 0)) rfl,
  fun _ _ _ _ _ _ _ => p_rgf (f := some 25) (by decide +kernel : p_at 128 206 = some (.getfield 7)) (by decide +kernel : p_fld (p_own 128) 7 = some (5, 0)) (rfl : p_ob 24 = some (.inr (5, [some 25, some 26, none, none, none, some 27, some 28, some 29, some 30, some 31, some 32, some 33, some 34, some 35, some 36, some 37, some 38, some 39, none, none, some 40]))) rfl,
  fun _ _ _ _ _ _ _ => p_r (by decide +kernel : p_at 128 209 = some (.iload_n 3)) rfl,
  fun _ _ _ _ _ _ _ _ => p_r (by decide +kernel : p_at 128 210 = some (.aload_n 0)) rfl,
  fun _ _ _ _ _ _ _ _ => p_rgf (f := some 25) (by decide +kernel : p_at 128 211 = some (.getfield 7)) (by decide +kernel : p_fld (p_own 128) 7 = some (5, 0)) (rfl : p_ob 24 = some (.inr (5, [some 25, some 26, none, none, none, some 27, some 28, some 29, some 30, some 31, some 32, some 33, some 34, some 35, some 36, some 37, some 38, some 39, none, none, some 40]))) rfl,
  fun _ _ _ _ _ _ _ _ => p_r (by decide +kernel : p_at 128 214 = some (.iload_n 3)) rfl,
  fun _ _ _ _ _ _ _ _ _ => p_r (by decide +kernel : p_at 128 215 = some (.iconst 2)) rfl,
  fun _ _ _ _ _ _ _ _ _ _ hp => p_ridiv (by decide +kernel : p_at 128 216 = some (.idiv)) hp,
  fun _ _ _ _ _ _ _ _ _ hp => p_riald (by decide +kernel : p_at 128 217 = some (.iaload)) (rfl : p_ob 25 = some (.inl (1, 16))) hp,
  fun _ _ _ _ _ _ _ _ _ => p_r (by decide +kernel : p_at 128 218 = some (.iconst 2)) rfl,
  fun _ _ _ _ _ _ _ _ _ _ => p_rb2 (c := fun x y => decide (¬ x = y)) (off := 12) (by decide +kernel : p_at 128 219 = some (.if_icmp .ne 12)) (by decide +kernel) rfl rfl rfl,
  fun _ _ _ _ _ _ _ _ => p_r (by decide +kernel : p_at 128 222 = some (.aload_n 0)) rfl,
  fun _ _ _ _ _ _ _ _ => p_rgf (f := some 25) (by decide +kernel : p_at 128 223 = some (.getfield 7)) (by decide +kernel : p_fld (p_own 128) 7 = some (5, 0)) (rfl : p_ob 24 = some (.inr (5, [some 25, some 26, none, none, none, some 27, some 28, some 29, some 30, some 31, some 32, some 33, some 34, some 35, some 36, some 37, some 38, some 39, none, none, some 40]))) rfl,
  fun _ _ _ _ _ _ _ _ => p_r (by decide +kernel : p_at 128 226 = some (.iload_n 3)) rfl,
  fun _ _ _ _ _ _ _ _ _ hp => p_riald (by decide +kernel : p_at 128 227 = some (.iaload)) (rfl : p_ob 25 = some (.inl (1, 16))) hp,
  fun _ _ _ _ _ _ _ _ _ => p_rgo (by decide +kernel : p_at 128 228 = some (.goto 4)) (by decide +kernel),
  fun _ _ _ _ _ _ _ _ => p_r (by decide +kernel : p_at 128 231 = some (.iconst 0)) rfl,
  fun _ _ _ _ _ _ _ _ _ hp => p_riast (by decide +kernel : p_at 128 232 = some (.iastore)) (rfl : p_ob 25 = some (.inl (1, 16))) hp,
  fun _ _ _ _ _ _ _ => p_r (by decide +kernel : p_at 128 233 = some (.iinc 3 1)) rfl,
  fun _ _ _ _ _ _ _ => p_rgo (by decide +kernel : p_at 128 236 = some (.goto (-38))) (by decide +kernel),
  fun _ _ _ _ _ _ _ => p_r (by decide +kernel : p_at 128 239 = some (.aload_n 0)) rfl,
  fun _ _ _ _ _ _ _ => p_rgf (f := some 30) (by decide +kernel : p_at 128 240 = some (.getfield 30)) (by decide +kernel : p_fld (p_own 128) 30 = some (5, 8)) (rfl : p_ob 24 = some (.inr (5, [some 25, some 26, none, none, none, some 27, some 28, some 29, some 30, some 31, some 32, some 33, some 34, some 35, some 36, some 37, some 38, some 39, none, none, some 40]))) rfl,
  fun _ _ _ _ _ _ _ => p_r (by decide +kernel : p_at 128 243 = some (.iconst 1)) rfl,
  fun _ _ _ _ _ _ _ _ hp => p_riald (by decide +kernel : p_at 128 244 = some (.iaload)) (rfl : p_ob 30 = some (.inl (1, 16))) hp,
  fun _ _ _ _ _ _ _ _ => p_riret (by decide +kernel : p_at 128 245 = some (.ireturn)) (by decide +kernel)⟩
theorem H128_32 :
  (∀ (scr : pX) (w : pW) (x1 : Int32) (x2 : Int32) (x3 : Int32), p_ev scr 128 32 [.ref 24, .int x1, .int x2, .int x3, p_U, p_U] [] w = p_ev scr 128 33 [.ref 24, .int x1, .int x2, .int x3, p_U, p_U] [.int x3] w) :=
  fun _ _ _ _ _ => p_r (by decide +kernel : p_at 128 32 = some (.iload_n 3)) rfl
theorem H128_67 :
  (∀ (scr : pX) (w : pW) (x1 : Int32) (x2 : Int32) (x3 : Int32) (z4 : Value) (z5 : Value), p_ev scr 128 67 [.ref 24, .int x1, .int x2, .int x3, z4, z5] [] w = p_ev scr 128 68 [.ref 24, .int x1, .int x2, .int x3, z4, z5] [.int x3] w) :=
  fun _ _ _ _ _ _ _ => p_r (by decide +kernel : p_at 128 67 = some (.iload_n 3)) rfl
theorem H128_198 :
  (∀ (scr : pX) (w : pW) (x1 : Int32) (x2 : Int32) (x3 : Int32) (z4 : Value) (z5 : Value), p_ev scr 128 198 [.ref 24, .int x1, .int x2, .int x3, z4, z5] [] w = p_ev scr 128 199 [.ref 24, .int x1, .int x2, .int x3, z4, z5] [.int x3] w) :=
  fun _ _ _ _ _ _ _ => p_r (by decide +kernel : p_at 128 198 = some (.iload_n 3)) rfl
-- 129: isLeafAt
theorem M129 :
  (∀ (scr : pX) (w : pW) (x1 : Int32), p_ev scr 129 0 [.ref 24, .int x1] [] w = p_ev scr 129 1 [.ref 24, .int x1] [.ref 24] w) ∧
  (∀ (scr : pX) (w : pW) (x1 : Int32), p_ev scr 129 1 [.ref 24, .int x1] [.ref 24] w = p_ev scr 129 2 [.ref 24, .int x1] [.int x1, .ref 24] w) ∧
  (∀ (scr : pX) (w : pW) (x1 : Int32) (s0 : Int32), p_ev scr 129 2 [.ref 24, .int x1] [.int s0, .ref 24] w = p_bnd scr 129 2 5 [.ref 24, .int x1] [] (p_ev none 102 0 [.ref 24, .int s0] [] w)) ∧
  (∀ (scr : pX) (w : pW) (x1 : Int32) (s0 : Int32), p_ev scr 129 5 [.ref 24, .int x1] [.int s0] w = if s0 = nI 0 then p_ev scr 129 22 [.ref 24, .int x1] [] w else p_ev scr 129 8 [.ref 24, .int x1] [] w) ∧
  (∀ (scr : pX) (w : pW) (x1 : Int32), p_ev scr 129 8 [.ref 24, .int x1] [] w = p_ev scr 129 9 [.ref 24, .int x1] [.ref 24] w) ∧
  (∀ (scr : pX) (w : pW) (x1 : Int32), p_ev scr 129 9 [.ref 24, .int x1] [.ref 24] w = p_ev scr 129 12 [.ref 24, .int x1] [.ref 25] w) ∧
  (∀ (scr : pX) (w : pW) (x1 : Int32), p_ev scr 129 12 [.ref 24, .int x1] [.ref 25] w = p_ev scr 129 13 [.ref 24, .int x1] [.int x1, .ref 25] w) ∧
  (∀ (scr : pX) (w : pW) (x1 : Int32) (s0 : Int32), p_out s0 16 = false → p_ev scr 129 13 [.ref 24, .int x1] [.int s0, .ref 25] w = p_ev scr 129 14 [.ref 24, .int x1] [.int (w.2.2 25 s0.toNatClampNeg)] w) ∧
  (∀ (scr : pX) (w : pW) (x1 : Int32) (s0 : Int32), p_ev scr 129 14 [.ref 24, .int x1] [.int s0] w = p_ev scr 129 15 [.ref 24, .int x1] [.int (nI 1), .int s0] w) ∧
  (∀ (scr : pX) (w : pW) (x1 : Int32) (s0 : Int32) (s1 : Int32), p_ev scr 129 15 [.ref 24, .int x1] [.int s0, .int s1] w = if ¬ s1 = s0 then p_ev scr 129 22 [.ref 24, .int x1] [] w else p_ev scr 129 18 [.ref 24, .int x1] [] w) ∧
  (∀ (scr : pX) (w : pW) (x1 : Int32), p_ev scr 129 18 [.ref 24, .int x1] [] w = p_ev scr 129 19 [.ref 24, .int x1] [.int (nI 1)] w) ∧
  (∀ (scr : pX) (w : pW) (x1 : Int32) (s0 : Int32), p_ev scr 129 19 [.ref 24, .int x1] [.int s0] w = p_ev scr 129 23 [.ref 24, .int x1] [.int s0] w) ∧
  (∀ (scr : pX) (w : pW) (x1 : Int32), p_ev scr 129 22 [.ref 24, .int x1] [] w = p_ev scr 129 23 [.ref 24, .int x1] [.int (nI 0)] w) ∧
  (∀ (scr : pX) (w : pW) (x1 : Int32) (s0 : Int32), narrow .boolean (.int s0) = .int s0 → p_ev scr 129 23 [.ref 24, .int x1] [.int s0] w = some (.inl (some (.int s0)), w, 0)) :=
  ⟨fun _ _ _ => p_r (by decide +kernel : p_at 129 0 = some (.aload_n 0)) rfl,
  fun _ _ _ => p_r (by decide +kernel : p_at 129 1 = some (.iload_n 1)) rfl,
  fun _ _ _ _ => p_rcv (nl := 2) (by decide +kernel : p_at 129 2 = some (.invokevirtual 135)) (by decide +kernel : p_inv (p_own 129) 135 = some (1, 102, 2)) (by decide +kernel) (rfl : p_ob 24 = some (.inr (5, [some 25, some 26, none, none, none, some 27, some 28, some 29, some 30, some 31, some 32, some 33, some 34, some 35, some 36, some 37, some 38, some 39, none, none, some 40]))) rfl rfl (Nat.le_of_ble_eq_true rfl) (Nat.le_of_ble_eq_true rfl) (Nat.le_of_ble_eq_true rfl) rfl,
  fun _ _ _ _ => p_rb1 (c := fun x => decide (x = 0)) (off := 17) (by decide +kernel : p_at 129 5 = some (.ifCond .eq 17)) (by decide +kernel) rfl rfl rfl,
  fun _ _ _ => p_r (by decide +kernel : p_at 129 8 = some (.aload_n 0)) rfl,
  fun _ _ _ => p_rgf (f := some 25) (by decide +kernel : p_at 129 9 = some (.getfield 7)) (by decide +kernel : p_fld (p_own 129) 7 = some (5, 0)) (rfl : p_ob 24 = some (.inr (5, [some 25, some 26, none, none, none, some 27, some 28, some 29, some 30, some 31, some 32, some 33, some 34, some 35, some 36, some 37, some 38, some 39, none, none, some 40]))) rfl,
  fun _ _ _ => p_r (by decide +kernel : p_at 129 12 = some (.iload_n 1)) rfl,
  fun _ _ _ _ hp => p_riald (by decide +kernel : p_at 129 13 = some (.iaload)) (rfl : p_ob 25 = some (.inl (1, 16))) hp,
  fun _ _ _ _ => p_r (by decide +kernel : p_at 129 14 = some (.iconst 1)) rfl,
  fun _ _ _ _ _ => p_rb2 (c := fun x y => decide (¬ x = y)) (off := 7) (by decide +kernel : p_at 129 15 = some (.if_icmp .ne 7)) (by decide +kernel) rfl rfl rfl,
  fun _ _ _ => p_r (by decide +kernel : p_at 129 18 = some (.iconst 1)) rfl,
  fun _ _ _ _ => p_rgo (by decide +kernel : p_at 129 19 = some (.goto 4)) (by decide +kernel),
  fun _ _ _ => p_r (by decide +kernel : p_at 129 22 = some (.iconst 0)) rfl,
  fun _ _ _ _ hp => p_rzret (by decide +kernel : p_at 129 23 = some (.ireturn)) (by decide +kernel) hp⟩
-- 130: sizeOf
theorem M130 :
  (∀ (scr : pX) (w : pW) (x1 : Int32), p_ev scr 130 0 [.ref 24, .int x1] [] w = p_ev scr 130 1 [.ref 24, .int x1] [.ref 24] w) ∧
  (∀ (scr : pX) (w : pW) (x1 : Int32), p_ev scr 130 1 [.ref 24, .int x1] [.ref 24] w = p_ev scr 130 2 [.ref 24, .int x1] [.int (nI 0), .ref 24] w) ∧
  (∀ (scr : pX) (w : pW) (x1 : Int32) (s0 : Int32), p_ev scr 130 2 [.ref 24, .int x1] [.int s0, .ref 24] w = p_ev scr 130 5 [.ref 24, .int x1] [] (p_u w.1 24 4 s0, w.2)) ∧
  (∀ (scr : pX) (w : pW) (x1 : Int32), p_ev scr 130 5 [.ref 24, .int x1] [] w = p_ev scr 130 6 [.ref 24, .int x1] [.ref 24] w) ∧
  (∀ (scr : pX) (w : pW) (x1 : Int32), p_ev scr 130 6 [.ref 24, .int x1] [.ref 24] w = p_ev scr 130 7 [.ref 24, .int x1] [.int x1, .ref 24] w) ∧
  (∀ (scr : pX) (w : pW) (x1 : Int32) (s0 : Int32), p_ev scr 130 7 [.ref 24, .int x1] [.int s0, .ref 24] w = p_bnd scr 130 7 10 [.ref 24, .int x1] [] (p_ev none 102 0 [.ref 24, .int s0] [] w)) ∧
  (∀ (scr : pX) (w : pW) (x1 : Int32) (s0 : Int32), p_ev scr 130 10 [.ref 24, .int x1] [.int s0] w = if ¬ s0 = nI 0 then p_ev scr 130 19 [.ref 24, .int x1] [] w else p_ev scr 130 13 [.ref 24, .int x1] [] w) ∧
  (∀ (scr : pX) (w : pW) (x1 : Int32), p_ev scr 130 13 [.ref 24, .int x1] [] w = p_ev scr 130 14 [.ref 24, .int x1] [.ref 24] w) ∧
  (∀ (scr : pX) (w : pW) (x1 : Int32), p_ev scr 130 14 [.ref 24, .int x1] [.ref 24] w = p_ev scr 130 15 [.ref 24, .int x1] [.int (nI 1), .ref 24] w) ∧
  (∀ (scr : pX) (w : pW) (x1 : Int32) (s0 : Int32), p_ev scr 130 15 [.ref 24, .int x1] [.int s0, .ref 24] w = p_bnd scr 130 15 18 [.ref 24, .int x1] [] (p_ev none 96 0 [.ref 24, .int s0] [] w)) ∧
  (∀ (scr : pX) (w : pW) (x1 : Int32) (s0 : Int32), p_ev scr 130 18 [.ref 24, .int x1] [.int s0] w = some (.inl (some (.int s0)), w, 0)) ∧
  (∀ (scr : pX) (w : pW) (x1 : Int32), p_ev scr 130 19 [.ref 24, .int x1] [] w = p_ev scr 130 20 [.ref 24, .int x1] [.ref 24] w) ∧
  (∀ (scr : pX) (w : pW) (x1 : Int32), p_ev scr 130 20 [.ref 24, .int x1] [.ref 24] w = p_ev scr 130 23 [.ref 24, .int x1] [.ref 25] w) ∧
  (∀ (scr : pX) (w : pW) (x1 : Int32), p_ev scr 130 23 [.ref 24, .int x1] [.ref 25] w = p_ev scr 130 24 [.ref 24, .int x1] [.int x1, .ref 25] w) ∧
  (∀ (scr : pX) (w : pW) (x1 : Int32) (s0 : Int32), p_out s0 16 = false → p_ev scr 130 24 [.ref 24, .int x1] [.int s0, .ref 25] w = p_ev scr 130 25 [.ref 24, .int x1] [.int (w.2.2 25 s0.toNatClampNeg)] w) ∧
  (∀ (scr : pX) (w : pW) (x1 : Int32) (s0 : Int32), p_ev scr 130 25 [.ref 24, .int x1] [.int s0] w = p_ev scr 130 26 [.ref 24, .int x1] [.int (nI 1), .int s0] w) ∧
  (∀ (scr : pX) (w : pW) (x1 : Int32) (s0 : Int32) (s1 : Int32), p_ev scr 130 26 [.ref 24, .int x1] [.int s0, .int s1] w = if ¬ s1 = s0 then p_ev scr 130 37 [.ref 24, .int x1] [] w else p_ev scr 130 29 [.ref 24, .int x1] [] w) ∧
  (∀ (scr : pX) (w : pW) (x1 : Int32), p_ev scr 130 29 [.ref 24, .int x1] [] w = p_ev scr 130 30 [.ref 24, .int x1] [.ref 24] w) ∧
  (∀ (scr : pX) (w : pW) (x1 : Int32), p_ev scr 130 30 [.ref 24, .int x1] [.ref 24] w = p_ev scr 130 31 [.ref 24, .int x1] [.int x1, .ref 24] w) ∧
  (∀ (scr : pX) (w : pW) (x1 : Int32) (s0 : Int32), p_ev scr 130 31 [.ref 24, .int x1] [.int s0, .ref 24] w = p_bnd scr 130 31 34 [.ref 24, .int x1] [] (p_ev none 101 0 [.ref 24, .int s0, p_U, p_U] [] w)) ∧
  (∀ (scr : pX) (w : pW) (x1 : Int32) (s0 : Int32), p_ev scr 130 34 [.ref 24, .int x1] [.int s0] w = p_ev scr 130 42 [.ref 24, .int x1] [.int s0] w) ∧
  (∀ (scr : pX) (w : pW) (x1 : Int32), p_ev scr 130 37 [.ref 24, .int x1] [] w = p_ev scr 130 38 [.ref 24, .int x1] [.ref 24] w) ∧
  (∀ (scr : pX) (w : pW) (x1 : Int32), p_ev scr 130 38 [.ref 24, .int x1] [.ref 24] w = p_ev scr 130 39 [.ref 24, .int x1] [.int (nI 2), .ref 24] w) ∧
  (∀ (scr : pX) (w : pW) (x1 : Int32) (s0 : Int32), p_ev scr 130 39 [.ref 24, .int x1] [.int s0, .ref 24] w = p_bnd scr 130 39 42 [.ref 24, .int x1] [] (p_ev none 96 0 [.ref 24, .int s0] [] w)) ∧
  (∀ (scr : pX) (w : pW) (x1 : Int32) (s0 : Int32), p_ev scr 130 42 [.ref 24, .int x1] [.int s0] w = some (.inl (some (.int s0)), w, 0)) :=
  ⟨fun _ _ _ => p_r (by decide +kernel : p_at 130 0 = some (.aload_n 0)) rfl,
  fun _ _ _ => p_r (by decide +kernel : p_at 130 1 = some (.iconst 0)) rfl,
  fun _ _ _ _ => p_rpf (by decide +kernel : p_at 130 2 = some (.putfield 63)) (by decide +kernel : p_fld (p_own 130) 63 = some (5, 4)) (rfl : p_ob 24 = some (.inr (5, [some 25, some 26, none, none, none, some 27, some 28, some 29, some 30, some 31, some 32, some 33, some 34, some 35, some 36, some 37, some 38, some 39, none, none, some 40]))) rfl,
  fun _ _ _ => p_r (by decide +kernel : p_at 130 5 = some (.aload_n 0)) rfl,
  fun _ _ _ => p_r (by decide +kernel : p_at 130 6 = some (.iload_n 1)) rfl,
  fun _ _ _ _ => p_rcv (nl := 2) (by decide +kernel : p_at 130 7 = some (.invokevirtual 135)) (by decide +kernel : p_inv (p_own 130) 135 = some (1, 102, 2)) (by decide +kernel) (rfl : p_ob 24 = some (.inr (5, [some 25, some 26, none, none, none, some 27, some 28, some 29, some 30, some 31, some 32, some 33, some 34, some 35, some 36, some 37, some 38, some 39, none, none, some 40]))) rfl rfl (Nat.le_of_ble_eq_true rfl) (Nat.le_of_ble_eq_true rfl) (Nat.le_of_ble_eq_true rfl) rfl,
  fun _ _ _ _ => p_rb1 (c := fun x => decide (¬ x = 0)) (off := 9) (by decide +kernel : p_at 130 10 = some (.ifCond .ne 9)) (by decide +kernel) rfl rfl rfl,
  fun _ _ _ => p_r (by decide +kernel : p_at 130 13 = some (.aload_n 0)) rfl,
  fun _ _ _ => p_r (by decide +kernel : p_at 130 14 = some (.iconst 1)) rfl,
  fun _ _ _ _ => p_rcv (nl := 2) (by decide +kernel : p_at 130 15 = some (.invokevirtual 76)) (by decide +kernel : p_inv (p_own 130) 76 = some (1, 96, 2)) (by decide +kernel) (rfl : p_ob 24 = some (.inr (5, [some 25, some 26, none, none, none, some 27, some 28, some 29, some 30, some 31, some 32, some 33, some 34, some 35, some 36, some 37, some 38, some 39, none, none, some 40]))) rfl rfl (Nat.le_of_ble_eq_true rfl) (Nat.le_of_ble_eq_true rfl) (Nat.le_of_ble_eq_true rfl) rfl,
  fun _ _ _ _ => p_riret (by decide +kernel : p_at 130 18 = some (.ireturn)) (by decide +kernel),
  fun _ _ _ => p_r (by decide +kernel : p_at 130 19 = some (.aload_n 0)) rfl,
  fun _ _ _ => p_rgf (f := some 25) (by decide +kernel : p_at 130 20 = some (.getfield 7)) (by decide +kernel : p_fld (p_own 130) 7 = some (5, 0)) (rfl : p_ob 24 = some (.inr (5, [some 25, some 26, none, none, none, some 27, some 28, some 29, some 30, some 31, some 32, some 33, some 34, some 35, some 36, some 37, some 38, some 39, none, none, some 40]))) rfl,
  fun _ _ _ => p_r (by decide +kernel : p_at 130 23 = some (.iload_n 1)) rfl,
  fun _ _ _ _ hp => p_riald (by decide +kernel : p_at 130 24 = some (.iaload)) (rfl : p_ob 25 = some (.inl (1, 16))) hp,
  fun _ _ _ _ => p_r (by decide +kernel : p_at 130 25 = some (.iconst 1)) rfl,
  fun _ _ _ _ _ => p_rb2 (c := fun x y => decide (¬ x = y)) (off := 11) (by decide +kernel : p_at 130 26 = some (.if_icmp .ne 11)) (by decide +kernel) rfl rfl rfl,
  fun _ _ _ => p_r (by decide +kernel : p_at 130 29 = some (.aload_n 0)) rfl,
  fun _ _ _ => p_r (by decide +kernel : p_at 130 30 = some (.iload_n 1)) rfl,
  fun _ _ _ _ => p_rcv (nl := 4) (by decide +kernel : p_at 130 31 = some (.invokevirtual 113)) (by decide +kernel : p_inv (p_own 130) 113 = some (1, 101, 2)) (by decide +kernel) (rfl : p_ob 24 = some (.inr (5, [some 25, some 26, none, none, none, some 27, some 28, some 29, some 30, some 31, some 32, some 33, some 34, some 35, some 36, some 37, some 38, some 39, none, none, some 40]))) rfl rfl (Nat.le_of_ble_eq_true rfl) (Nat.le_of_ble_eq_true rfl) (Nat.le_of_ble_eq_true rfl) rfl,
  fun _ _ _ _ => p_rgo (by decide +kernel : p_at 130 34 = some (.goto 8)) (by decide +kernel),
  fun _ _ _ => p_r (by decide +kernel : p_at 130 37 = some (.aload_n 0)) rfl,
  fun _ _ _ => p_r (by decide +kernel : p_at 130 38 = some (.iconst 2)) rfl,
  fun _ _ _ _ => p_rcv (nl := 2) (by decide +kernel : p_at 130 39 = some (.invokevirtual 76)) (by decide +kernel : p_inv (p_own 130) 76 = some (1, 96, 2)) (by decide +kernel) (rfl : p_ob 24 = some (.inr (5, [some 25, some 26, none, none, none, some 27, some 28, some 29, some 30, some 31, some 32, some 33, some 34, some 35, some 36, some 37, some 38, some 39, none, none, some 40]))) rfl rfl (Nat.le_of_ble_eq_true rfl) (Nat.le_of_ble_eq_true rfl) (Nat.le_of_ble_eq_true rfl) rfl,
  fun _ _ _ _ => p_riret (by decide +kernel : p_at 130 42 = some (.ireturn)) (by decide +kernel)⟩
-- 131: number
theorem M131 :
  (∀ (scr : pX) (w : pW) (x1 : Int32) (x2 : Int32), p_ev scr 131 0 [.ref 24, .int x1, .int x2] [] w = p_ev scr 131 1 [.ref 24, .int x1, .int x2] [.ref 24] w) ∧
  (∀ (scr : pX) (w : pW) (x1 : Int32) (x2 : Int32), p_ev scr 131 1 [.ref 24, .int x1, .int x2] [.ref 24] w = p_ev scr 131 2 [.ref 24, .int x1, .int x2] [.int (nI 0), .ref 24] w) ∧
  (∀ (scr : pX) (w : pW) (x1 : Int32) (x2 : Int32) (s0 : Int32), p_ev scr 131 2 [.ref 24, .int x1, .int x2] [.int s0, .ref 24] w = p_ev scr 131 5 [.ref 24, .int x1, .int x2] [] (p_u w.1 24 4 s0, w.2)) ∧
  (∀ (scr : pX) (w : pW) (x1 : Int32) (x2 : Int32), p_ev scr 131 5 [.ref 24, .int x1, .int x2] [] w = p_ev scr 131 6 [.ref 24, .int x1, .int x2] [.ref 24] w) ∧
  (∀ (scr : pX) (w : pW) (x1 : Int32) (x2 : Int32), p_ev scr 131 6 [.ref 24, .int x1, .int x2] [.ref 24] w = p_ev scr 131 7 [.ref 24, .int x1, .int x2] [.int x1, .ref 24] w) ∧
  (∀ (scr : pX) (w : pW) (x1 : Int32) (x2 : Int32) (s0 : Int32), p_ev scr 131 7 [.ref 24, .int x1, .int x2] [.int s0, .ref 24] w = p_bnd scr 131 7 10 [.ref 24, .int x1, .int x2] [] (p_ev none 102 0 [.ref 24, .int s0] [] w)) ∧
  (∀ (scr : pX) (w : pW) (x1 : Int32) (x2 : Int32) (s0 : Int32), p_ev scr 131 10 [.ref 24, .int x1, .int x2] [.int s0] w = if s0 = nI 0 then p_ev scr 131 38 [.ref 24, .int x1, .int x2] [] w else p_ev scr 131 13 [.ref 24, .int x1, .int x2] [] w) ∧
  (∀ (scr : pX) (w : pW) (x1 : Int32) (x2 : Int32), p_ev scr 131 13 [.ref 24, .int x1, .int x2] [] w = p_ev scr 131 14 [.ref 24, .int x1, .int x2] [.ref 24] w) ∧
  (∀ (scr : pX) (w : pW) (x1 : Int32) (x2 : Int32), p_ev scr 131 14 [.ref 24, .int x1, .int x2] [.ref 24] w = p_ev scr 131 17 [.ref 24, .int x1, .int x2] [.ref 25] w) ∧
  (∀ (scr : pX) (w : pW) (x1 : Int32) (x2 : Int32), p_ev scr 131 17 [.ref 24, .int x1, .int x2] [.ref 25] w = p_ev scr 131 18 [.ref 24, .int x1, .int x2] [.int x1, .ref 25] w) ∧
  (∀ (scr : pX) (w : pW) (x1 : Int32) (x2 : Int32) (s0 : Int32), p_out s0 16 = false → p_ev scr 131 18 [.ref 24, .int x1, .int x2] [.int s0, .ref 25] w = p_ev scr 131 19 [.ref 24, .int x1, .int x2] [.int (w.2.2 25 s0.toNatClampNeg)] w) ∧
  (∀ (scr : pX) (w : pW) (x1 : Int32) (x2 : Int32) (s0 : Int32), p_ev scr 131 19 [.ref 24, .int x1, .int x2] [.int s0] w = p_ev scr 131 20 [.ref 24, .int x1, .int x2] [.int (nI 1), .int s0] w) ∧
  (∀ (scr : pX) (w : pW) (x1 : Int32) (x2 : Int32) (s0 : Int32) (s1 : Int32), p_ev scr 131 20 [.ref 24, .int x1, .int x2] [.int s0, .int s1] w = if ¬ s1 = s0 then p_ev scr 131 45 [.ref 24, .int x1, .int x2] [] w else p_ev scr 131 23 [.ref 24, .int x1, .int x2] [] w) ∧
  (∀ (scr : pX) (w : pW) (x1 : Int32) (x2 : Int32), p_ev scr 131 23 [.ref 24, .int x1, .int x2] [] w = p_ev scr 131 24 [.ref 24, .int x1, .int x2] [.int x2] w) ∧
  (∀ (scr : pX) (w : pW) (x1 : Int32) (x2 : Int32) (s0 : Int32), p_ev scr 131 24 [.ref 24, .int x1, .int x2] [.int s0] w = p_ev scr 131 25 [.ref 24, .int x1, .int x2] [.int (nI 0), .int s0] w) ∧
  (∀ (scr : pX) (w : pW) (x1 : Int32) (x2 : Int32) (s0 : Int32) (s1 : Int32), p_ev scr 131 25 [.ref 24, .int x1, .int x2] [.int s0, .int s1] w = p_ev scr 131 26 [.ref 24, .int x1, .int x2] [.ref 24, .int s0, .int s1] w) ∧
  (∀ (scr : pX) (w : pW) (x1 : Int32) (x2 : Int32) (s1 : Int32) (s2 : Int32), p_ev scr 131 26 [.ref 24, .int x1, .int x2] [.ref 24, .int s1, .int s2] w = p_ev scr 131 27 [.ref 24, .int x1, .int x2] [.int x1, .ref 24, .int s1, .int s2] w) ∧
  (∀ (scr : pX) (w : pW) (x1 : Int32) (x2 : Int32) (s0 : Int32) (s2 : Int32) (s3 : Int32), p_ev scr 131 27 [.ref 24, .int x1, .int x2] [.int s0, .ref 24, .int s2, .int s3] w = p_bnd scr 131 27 30 [.ref 24, .int x1, .int x2] [.int s2, .int s3] (p_ev none 101 0 [.ref 24, .int s0, p_U, p_U] [] w)) ∧
  (∀ (scr : pX) (w : pW) (x1 : Int32) (x2 : Int32) (s0 : Int32) (s1 : Int32) (s2 : Int32), p_ev scr 131 30 [.ref 24, .int x1, .int x2] [.int s0, .int s1, .int s2] w = p_ev scr 131 31 [.ref 24, .int x1, .int x2] [.int (nI 1), .int s0, .int s1, .int s2] w) ∧
  (∀ (scr : pX) (w : pW) (x1 : Int32) (x2 : Int32) (s0 : Int32) (s1 : Int32) (s2 : Int32) (s3 : Int32), p_ev scr 131 31 [.ref 24, .int x1, .int x2] [.int s0, .int s1, .int s2, .int s3] w = p_ev scr 131 32 [.ref 24, .int x1, .int x2] [.int (s1 - s0), .int s2, .int s3] w) ∧
  (∀ (scr : pX) (w : pW) (x1 : Int32) (x2 : Int32) (s0 : Int32) (s1 : Int32) (s2 : Int32), p_ev scr 131 32 [.ref 24, .int x1, .int x2] [.int s0, .int s1, .int s2] w = p_bnd scr 131 32 35 [.ref 24, .int x1, .int x2] [] (p_ev none 97 0 [.int s2, .int s1, .int s0] [] w)) ∧
  (∀ (scr : pX) (w : pW) (x1 : Int32) (x2 : Int32) (s0 : Int32), p_ev scr 131 35 [.ref 24, .int x1, .int x2] [.int s0] w = if ¬ s0 = nI 0 then p_ev scr 131 45 [.ref 24, .int x1, .int x2] [] w else p_ev scr 131 38 [.ref 24, .int x1, .int x2] [] w) ∧
  (∀ (scr : pX) (w : pW) (x1 : Int32) (x2 : Int32), p_ev scr 131 38 [.ref 24, .int x1, .int x2] [] w = p_ev scr 131 39 [.ref 24, .int x1, .int x2] [.ref 24] w) ∧
  (∀ (scr : pX) (w : pW) (x1 : Int32) (x2 : Int32), p_ev scr 131 39 [.ref 24, .int x1, .int x2] [.ref 24] w = p_ev scr 131 40 [.ref 24, .int x1, .int x2] [.int (nI 1), .ref 24] w) ∧
  (∀ (scr : pX) (w : pW) (x1 : Int32) (x2 : Int32) (s0 : Int32), p_ev scr 131 40 [.ref 24, .int x1, .int x2] [.int s0, .ref 24] w = p_bnd scr 131 40 43 [.ref 24, .int x1, .int x2] [] (p_ev none 96 0 [.ref 24, .int s0] [] w)) ∧
  (∀ (scr : pX) (w : pW) (x1 : Int32) (x2 : Int32) (s0 : Int32), p_ev scr 131 43 [.ref 24, .int x1, .int x2] [.int s0] w = p_ev scr 131 44 [.ref 24, .int x1, .int x2] [.long s0.toInt64] w) ∧
  (∀ (scr : pX) (w : pW) (x1 : Int32) (x2 : Int32) (t0 : Int64), p_ev scr 131 44 [.ref 24, .int x1, .int x2] [.long t0] w = some (.inl (some (.long t0)), w, 0)) ∧
  (∀ (scr : pX) (w : pW) (x1 : Int32) (x2 : Int32), p_ev scr 131 45 [.ref 24, .int x1, .int x2] [] w = p_ev scr 131 46 [.ref 24, .int x1, .int x2] [.ref 24] w) ∧
  (∀ (scr : pX) (w : pW) (x1 : Int32) (x2 : Int32), p_ev scr 131 46 [.ref 24, .int x1, .int x2] [.ref 24] w = p_ev scr 131 49 [.ref 24, .int x1, .int x2] [.ref 25] w) ∧
  (∀ (scr : pX) (w : pW) (x1 : Int32) (x2 : Int32), p_ev scr 131 49 [.ref 24, .int x1, .int x2] [.ref 25] w = p_ev scr 131 50 [.ref 24, .int x1, .int x2] [.int x1, .ref 25] w) ∧
  (∀ (scr : pX) (w : pW) (x1 : Int32) (x2 : Int32) (s0 : Int32), p_out s0 16 = false → p_ev scr 131 50 [.ref 24, .int x1, .int x2] [.int s0, .ref 25] w = p_ev scr 131 51 [.ref 24, .int x1, .int x2] [.int (w.2.2 25 s0.toNatClampNeg)] w) ∧
  (∀ (scr : pX) (w : pW) (x1 : Int32) (x2 : Int32) (s0 : Int32), p_ev scr 131 51 [.ref 24, .int x1, .int x2] [.int s0] w = p_ev scr 131 52 [.ref 24, .int x1, .int x2] [.int (nI 1), .int s0] w) ∧
  (∀ (scr : pX) (w : pW) (x1 : Int32) (x2 : Int32) (s0 : Int32) (s1 : Int32), p_ev scr 131 52 [.ref 24, .int x1, .int x2] [.int s0, .int s1] w = if ¬ s1 = s0 then p_ev scr 131 69 [.ref 24, .int x1, .int x2] [] w else p_ev scr 131 55 [.ref 24, .int x1, .int x2] [] w) ∧
  (∀ (scr : pX) (w : pW) (x1 : Int32) (x2 : Int32), p_ev scr 131 55 [.ref 24, .int x1, .int x2] [] w = p_ev scr 131 56 [.ref 24, .int x1, .int x2] [.ref 24] w) ∧
  (∀ (scr : pX) (w : pW) (x1 : Int32) (x2 : Int32), p_ev scr 131 56 [.ref 24, .int x1, .int x2] [.ref 24] w = p_ev scr 131 59 [.ref 24, .int x1, .int x2] [.ref 26] w) ∧
  (∀ (scr : pX) (w : pW) (x1 : Int32) (x2 : Int32), p_ev scr 131 59 [.ref 24, .int x1, .int x2] [.ref 26] w = p_ev scr 131 61 [.ref 24, .int x1, .int x2] [.int (nI 32), .ref 26] w) ∧
  (∀ (scr : pX) (w : pW) (x1 : Int32) (x2 : Int32) (s0 : Int32), p_ev scr 131 61 [.ref 24, .int x1, .int x2] [.int s0, .ref 26] w = p_ev scr 131 62 [.ref 24, .int x1, .int x2] [.int x1, .int s0, .ref 26] w) ∧
  (∀ (scr : pX) (w : pW) (x1 : Int32) (x2 : Int32) (s0 : Int32) (s1 : Int32), p_ev scr 131 62 [.ref 24, .int x1, .int x2] [.int s0, .int s1, .ref 26] w = p_ev scr 131 63 [.ref 24, .int x1, .int x2] [.int (s1 * s0), .ref 26] w) ∧
  (∀ (scr : pX) (w : pW) (x1 : Int32) (x2 : Int32) (s0 : Int32), p_ev scr 131 63 [.ref 24, .int x1, .int x2] [.int s0, .ref 26] w = p_ev scr 131 64 [.ref 24, .int x1, .int x2] [.int x2, .int s0, .ref 26] w) ∧
  (∀ (scr : pX) (w : pW) (x1 : Int32) (x2 : Int32) (s0 : Int32) (s1 : Int32), p_ev scr 131 64 [.ref 24, .int x1, .int x2] [.int s0, .int s1, .ref 26] w = p_ev scr 131 65 [.ref 24, .int x1, .int x2] [.int (s1 + s0), .ref 26] w) ∧
  (∀ (scr : pX) (w : pW) (x1 : Int32) (x2 : Int32) (s0 : Int32), p_out s0 512 = false → p_ev scr 131 65 [.ref 24, .int x1, .int x2] [.int s0, .ref 26] w = p_ev scr 131 66 [.ref 24, .int x1, .int x2] [.long (w.2.1 26 s0.toNatClampNeg)] w) ∧
  (∀ (scr : pX) (w : pW) (x1 : Int32) (x2 : Int32) (t0 : Int64), p_ev scr 131 66 [.ref 24, .int x1, .int x2] [.long t0] w = p_ev scr 131 75 [.ref 24, .int x1, .int x2] [.long t0] w) ∧
  (∀ (scr : pX) (w : pW) (x1 : Int32) (x2 : Int32), p_ev scr 131 69 [.ref 24, .int x1, .int x2] [] w = p_ev scr 131 70 [.ref 24, .int x1, .int x2] [.ref 24] w) ∧
  (∀ (scr : pX) (w : pW) (x1 : Int32) (x2 : Int32), p_ev scr 131 70 [.ref 24, .int x1, .int x2] [.ref 24] w = p_ev scr 131 71 [.ref 24, .int x1, .int x2] [.int (nI 2), .ref 24] w) ∧
  (∀ (scr : pX) (w : pW) (x1 : Int32) (x2 : Int32) (s0 : Int32), p_ev scr 131 71 [.ref 24, .int x1, .int x2] [.int s0, .ref 24] w = p_bnd scr 131 71 74 [.ref 24, .int x1, .int x2] [] (p_ev none 96 0 [.ref 24, .int s0] [] w)) ∧
  (∀ (scr : pX) (w : pW) (x1 : Int32) (x2 : Int32) (s0 : Int32), p_ev scr 131 74 [.ref 24, .int x1, .int x2] [.int s0] w = p_ev scr 131 75 [.ref 24, .int x1, .int x2] [.long s0.toInt64] w) ∧
  (∀ (scr : pX) (w : pW) (x1 : Int32) (x2 : Int32) (t0 : Int64), p_ev scr 131 75 [.ref 24, .int x1, .int x2] [.long t0] w = some (.inl (some (.long t0)), w, 0)) :=
  ⟨fun _ _ _ _ => p_r (by decide +kernel : p_at 131 0 = some (.aload_n 0)) rfl,
  fun _ _ _ _ => p_r (by decide +kernel : p_at 131 1 = some (.iconst 0)) rfl,
  fun _ _ _ _ _ => p_rpf (by decide +kernel : p_at 131 2 = some (.putfield 63)) (by decide +kernel : p_fld (p_own 131) 63 = some (5, 4)) (rfl : p_ob 24 = some (.inr (5, [some 25, some 26, none, none, none, some 27, some 28, some 29, some 30, some 31, some 32, some 33, some 34, some 35, some 36, some 37, some 38, some 39, none, none, some 40]))) rfl,
  fun _ _ _ _ => p_r (by decide +kernel : p_at 131 5 = some (.aload_n 0)) rfl,
  fun _ _ _ _ => p_r (by decide +kernel : p_at 131 6 = some (.iload_n 1)) rfl,
  fun _ _ _ _ _ => p_rcv (nl := 2) (by decide +kernel : p_at 131 7 = some (.invokevirtual 135)) (by decide +kernel : p_inv (p_own 131) 135 = some (1, 102, 2)) (by decide +kernel) (rfl : p_ob 24 = some (.inr (5, [some 25, some 26, none, none, none, some 27, some 28, some 29, some 30, some 31, some 32, some 33, some 34, some 35, some 36, some 37, some 38, some 39, none, none, some 40]))) rfl rfl (Nat.le_of_ble_eq_true rfl) (Nat.le_of_ble_eq_true rfl) (Nat.le_of_ble_eq_true rfl) rfl,
  fun _ _ _ _ _ => p_rb1 (c := fun x => decide (x = 0)) (off := 28) (by decide +kernel : p_at 131 10 = some (.ifCond .eq 28)) (by decide +kernel) rfl rfl rfl,
  fun _ _ _ _ => p_r (by decide +kernel : p_at 131 13 = some (.aload_n 0)) rfl,
  fun _ _ _ _ => p_rgf (f := some 25) (by decide +kernel : p_at 131 14 = some (.getfield 7)) (by decide +kernel : p_fld (p_own 131) 7 = some (5, 0)) (rfl : p_ob 24 = some (.inr (5, [some 25, some 26, none, none, none, some 27, some 28, some 29, some 30, some 31, some 32, some 33, some 34, some 35, some 36, some 37, some 38, some 39, none, none, some 40]))) rfl,
  fun _ _ _ _ => p_r (by decide +kernel : p_at 131 17 = some (.iload_n 1)) rfl,
  fun _ _ _ _ _ hp => p_riald (by decide +kernel : p_at 131 18 = some (.iaload)) (rfl : p_ob 25 = some (.inl (1, 16))) hp,
  fun _ _ _ _ _ => p_r (by decide +kernel : p_at 131 19 = some (.iconst 1)) rfl,
  fun _ _ _ _ _ _ => p_rb2 (c := fun x y => decide (¬ x = y)) (off := 25) (by decide +kernel : p_at 131 20 = some (.if_icmp .ne 25)) (by decide +kernel) rfl rfl rfl,
  fun _ _ _ _ => p_r (by decide +kernel : p_at 131 23 = some (.iload_n 2)) rfl,
  fun _ _ _ _ _ => p_r (by decide +kernel : p_at 131 24 = some (.iconst 0)) rfl,
  fun _ _ _ _ _ _ => p_r (by decide +kernel : p_at 131 25 = some (.aload_n 0)) rfl,
  fun _ _ _ _ _ _ => p_r (by decide +kernel : p_at 131 26 = some (.iload_n 1)) rfl,
  fun _ _ _ _ _ _ _ => p_rcv (nl := 4) (by decide +kernel : p_at 131 27 = some (.invokevirtual 113)) (by decide +kernel : p_inv (p_own 131) 113 = some (1, 101, 2)) (by decide +kernel) (rfl : p_ob 24 = some (.inr (5, [some 25, some 26, none, none, none, some 27, some 28, some 29, some 30, some 31, some 32, some 33, some 34, some 35, some 36, some 37, some 38, some 39, none, none, some 40]))) rfl rfl (Nat.le_of_ble_eq_true rfl) (Nat.le_of_ble_eq_true rfl) (Nat.le_of_ble_eq_true rfl) rfl,
  fun _ _ _ _ _ _ _ => p_r (by decide +kernel : p_at 131 30 = some (.iconst 1)) rfl,
  fun _ _ _ _ _ _ _ _ => p_r (by decide +kernel : p_at 131 31 = some (.isub)) rfl,
  fun _ _ _ _ _ _ _ => p_rcs (nl := 3) (by decide +kernel : p_at 131 32 = some (.invokestatic 72)) (by decide +kernel : p_inv (p_own 131) 72 = some (1, 97, 3)) (by decide +kernel) rfl rfl (Nat.le_of_ble_eq_true rfl) (Nat.le_of_ble_eq_true rfl) (Nat.le_of_ble_eq_true rfl) rfl,
  fun _ _ _ _ _ => p_rb1 (c := fun x => decide (¬ x = 0)) (off := 10) (by decide +kernel : p_at 131 35 = some (.ifCond .ne 10)) (by decide +kernel) rfl rfl rfl,
  fun _ _ _ _ => p_r (by decide +kernel : p_at 131 38 = some (.aload_n 0)) rfl,
  fun _ _ _ _ => p_r (by decide +kernel : p_at 131 39 = some (.iconst 1)) rfl,
  fun _ _ _ _ _ => p_rcv (nl := 2) (by decide +kernel : p_at 131 40 = some (.invokevirtual 76)) (by decide +kernel : p_inv (p_own 131) 76 = some (1, 96, 2)) (by decide +kernel) (rfl : p_ob 24 = some (.inr (5, [some 25, some 26, none, none, none, some 27, some 28, some 29, some 30, some 31, some 32, some 33, some 34, some 35, some 36, some 37, some 38, some 39, none, none, some 40]))) rfl rfl (Nat.le_of_ble_eq_true rfl) (Nat.le_of_ble_eq_true rfl) (Nat.le_of_ble_eq_true rfl) rfl,
  fun _ _ _ _ _ => p_r (by decide +kernel : p_at 131 43 = some (.i2l)) rfl,
  fun _ _ _ _ _ => p_rlret (by decide +kernel : p_at 131 44 = some (.lreturn)) (by decide +kernel),
  fun _ _ _ _ => p_r (by decide +kernel : p_at 131 45 = some (.aload_n 0)) rfl,
  fun _ _ _ _ => p_rgf (f := some 25) (by decide +kernel : p_at 131 46 = some (.getfield 7)) (by decide +kernel : p_fld (p_own 131) 7 = some (5, 0)) (rfl : p_ob 24 = some (.inr (5, [some 25, some 26, none, none, none, some 27, some 28, some 29, some 30, some 31, some 32, some 33, some 34, some 35, some 36, some 37, some 38, some 39, none, none, some 40]))) rfl,
  fun _ _ _ _ => p_r (by decide +kernel : p_at 131 49 = some (.iload_n 1)) rfl,
  fun _ _ _ _ _ hp => p_riald (by decide +kernel : p_at 131 50 = some (.iaload)) (rfl : p_ob 25 = some (.inl (1, 16))) hp,
  fun _ _ _ _ _ => p_r (by decide +kernel : p_at 131 51 = some (.iconst 1)) rfl,
  fun _ _ _ _ _ _ => p_rb2 (c := fun x y => decide (¬ x = y)) (off := 17) (by decide +kernel : p_at 131 52 = some (.if_icmp .ne 17)) (by decide +kernel) rfl rfl rfl,
  fun _ _ _ _ => p_r (by decide +kernel : p_at 131 55 = some (.aload_n 0)) rfl,
  fun _ _ _ _ => p_rgf (f := some 26) (by decide +kernel : p_at 131 56 = some (.getfield 13)) (by decide +kernel : p_fld (p_own 131) 13 = some (5, 1)) (rfl : p_ob 24 = some (.inr (5, [some 25, some 26, none, none, none, some 27, some 28, some 29, some 30, some 31, some 32, some 33, some 34, some 35, some 36, some 37, some 38, some 39, none, none, some 40]))) rfl,
  fun _ _ _ _ => p_r (by decide +kernel : p_at 131 59 = some (.bipush 32)) rfl,
  fun _ _ _ _ _ => p_r (by decide +kernel : p_at 131 61 = some (.iload_n 1)) rfl,
  fun _ _ _ _ _ _ => p_r (by decide +kernel : p_at 131 62 = some (.imul)) rfl,
  fun _ _ _ _ _ => p_r (by decide +kernel : p_at 131 63 = some (.iload_n 2)) rfl,
  fun _ _ _ _ _ _ => p_r (by decide +kernel : p_at 131 64 = some (.iadd)) rfl,
  fun _ _ _ _ _ hp => p_rlald (by decide +kernel : p_at 131 65 = some (.laload)) (rfl : p_ob 26 = some (.inl (2, 512))) hp,
  fun _ _ _ _ _ => p_rgo (by decide +kernel : p_at 131 66 = some (.goto 9)) (by decide +kernel),
  fun _ _ _ _ => p_r (by decide +kernel : p_at 131 69 = some (.aload_n 0)) rfl,
  fun _ _ _ _ => p_r (by decide +kernel : p_at 131 70 = some (.iconst 2)) rfl,
  fun _ _ _ _ _ => p_rcv (nl := 2) (by decide +kernel : p_at 131 71 = some (.invokevirtual 76)) (by decide +kernel : p_inv (p_own 131) 76 = some (1, 96, 2)) (by decide +kernel) (rfl : p_ob 24 = some (.inr (5, [some 25, some 26, none, none, none, some 27, some 28, some 29, some 30, some 31, some 32, some 33, some 34, some 35, some 36, some 37, some 38, some 39, none, none, some 40]))) rfl rfl (Nat.le_of_ble_eq_true rfl) (Nat.le_of_ble_eq_true rfl) (Nat.le_of_ble_eq_true rfl) rfl,
  fun _ _ _ _ _ => p_r (by decide +kernel : p_at 131 74 = some (.i2l)) rfl,
  fun _ _ _ _ _ => p_rlret (by decide +kernel : p_at 131 75 = some (.lreturn)) (by decide +kernel)⟩
-- 132: setNumber
theorem M132 :
  (∀ (scr : pX) (w : pW) (x1 : Int32) (x2 : Int32) (x3 : Int32), p_ev scr 132 0 [.ref 24, .int x1, .int x2, .int x3, p_U, p_U] [] w = p_ev scr 132 1 [.ref 24, .int x1, .int x2, .int x3, p_U, p_U] [.ref 24] w) ∧
  (∀ (scr : pX) (w : pW) (x1 : Int32) (x2 : Int32) (x3 : Int32), p_ev scr 132 1 [.ref 24, .int x1, .int x2, .int x3, p_U, p_U] [.ref 24] w = p_ev scr 132 2 [.ref 24, .int x1, .int x2, .int x3, p_U, p_U] [.int (nI 0), .ref 24] w) ∧
  (∀ (scr : pX) (w : pW) (x1 : Int32) (x2 : Int32) (x3 : Int32) (s0 : Int32), p_ev scr 132 2 [.ref 24, .int x1, .int x2, .int x3, p_U, p_U] [.int s0, .ref 24] w = p_ev scr 132 5 [.ref 24, .int x1, .int x2, .int x3, p_U, p_U] [] (p_u w.1 24 4 s0, w.2)) ∧
  (∀ (scr : pX) (w : pW) (x1 : Int32) (x2 : Int32) (x3 : Int32), p_ev scr 132 5 [.ref 24, .int x1, .int x2, .int x3, p_U, p_U] [] w = p_ev scr 132 6 [.ref 24, .int x1, .int x2, .int x3, p_U, p_U] [.ref 24] w) ∧
  (∀ (scr : pX) (w : pW) (x1 : Int32) (x2 : Int32) (x3 : Int32), p_ev scr 132 6 [.ref 24, .int x1, .int x2, .int x3, p_U, p_U] [.ref 24] w = p_ev scr 132 7 [.ref 24, .int x1, .int x2, .int x3, p_U, p_U] [.int x1, .ref 24] w) ∧
  (∀ (scr : pX) (w : pW) (x1 : Int32) (x2 : Int32) (x3 : Int32) (s0 : Int32), p_ev scr 132 7 [.ref 24, .int x1, .int x2, .int x3, p_U, p_U] [.int s0, .ref 24] w = p_bnd scr 132 7 10 [.ref 24, .int x1, .int x2, .int x3, p_U, p_U] [] (p_ev none 102 0 [.ref 24, .int s0] [] w)) ∧
  (∀ (scr : pX) (w : pW) (x1 : Int32) (x2 : Int32) (x3 : Int32) (s0 : Int32), p_ev scr 132 10 [.ref 24, .int x1, .int x2, .int x3, p_U, p_U] [.int s0] w = if s0 = nI 0 then p_ev scr 132 38 [.ref 24, .int x1, .int x2, .int x3, p_U, p_U] [] w else p_ev scr 132 13 [.ref 24, .int x1, .int x2, .int x3, p_U, p_U] [] w) ∧
  (∀ (scr : pX) (w : pW) (x1 : Int32) (x2 : Int32) (x3 : Int32), p_ev scr 132 13 [.ref 24, .int x1, .int x2, .int x3, p_U, p_U] [] w = p_ev scr 132 14 [.ref 24, .int x1, .int x2, .int x3, p_U, p_U] [.ref 24] w) ∧
  (∀ (scr : pX) (w : pW) (x1 : Int32) (x2 : Int32) (x3 : Int32), p_ev scr 132 14 [.ref 24, .int x1, .int x2, .int x3, p_U, p_U] [.ref 24] w = p_ev scr 132 17 [.ref 24, .int x1, .int x2, .int x3, p_U, p_U] [.ref 25] w) ∧
  (∀ (scr : pX) (w : pW) (x1 : Int32) (x2 : Int32) (x3 : Int32), p_ev scr 132 17 [.ref 24, .int x1, .int x2, .int x3, p_U, p_U] [.ref 25] w = p_ev scr 132 18 [.ref 24, .int x1, .int x2, .int x3, p_U, p_U] [.int x1, .ref 25] w) ∧
  (∀ (scr : pX) (w : pW) (x1 : Int32) (x2 : Int32) (x3 : Int32) (s0 : Int32), p_out s0 16 = false → p_ev scr 132 18 [.ref 24, .int x1, .int x2, .int x3, p_U, p_U] [.int s0, .ref 25] w = p_ev scr 132 19 [.ref 24, .int x1, .int x2, .int x3, p_U, p_U] [.int (w.2.2 25 s0.toNatClampNeg)] w) ∧
  (∀ (scr : pX) (w : pW) (x1 : Int32) (x2 : Int32) (x3 : Int32) (s0 : Int32), p_ev scr 132 19 [.ref 24, .int x1, .int x2, .int x3, p_U, p_U] [.int s0] w = p_ev scr 132 20 [.ref 24, .int x1, .int x2, .int x3, p_U, p_U] [.int (nI 1), .int s0] w) ∧
  (∀ (scr : pX) (w : pW) (x1 : Int32) (x2 : Int32) (x3 : Int32) (s0 : Int32) (s1 : Int32), p_ev scr 132 20 [.ref 24, .int x1, .int x2, .int x3, p_U, p_U] [.int s0, .int s1] w = if ¬ s1 = s0 then p_ev scr 132 45 [.ref 24, .int x1, .int x2, .int x3, p_U, p_U] [] w else p_ev scr 132 23 [.ref 24, .int x1, .int x2, .int x3, p_U, p_U] [] w) ∧
  (∀ (scr : pX) (w : pW) (x1 : Int32) (x2 : Int32) (x3 : Int32), p_ev scr 132 23 [.ref 24, .int x1, .int x2, .int x3, p_U, p_U] [] w = p_ev scr 132 24 [.ref 24, .int x1, .int x2, .int x3, p_U, p_U] [.int x2] w) ∧
  (∀ (scr : pX) (w : pW) (x1 : Int32) (x2 : Int32) (x3 : Int32) (s0 : Int32), p_ev scr 132 24 [.ref 24, .int x1, .int x2, .int x3, p_U, p_U] [.int s0] w = p_ev scr 132 25 [.ref 24, .int x1, .int x2, .int x3, p_U, p_U] [.int (nI 0), .int s0] w) ∧
  (∀ (scr : pX) (w : pW) (x1 : Int32) (x2 : Int32) (x3 : Int32) (s0 : Int32) (s1 : Int32), p_ev scr 132 25 [.ref 24, .int x1, .int x2, .int x3, p_U, p_U] [.int s0, .int s1] w = p_ev scr 132 26 [.ref 24, .int x1, .int x2, .int x3, p_U, p_U] [.ref 24, .int s0, .int s1] w) ∧
  (∀ (scr : pX) (w : pW) (x1 : Int32) (x2 : Int32) (x3 : Int32) (s1 : Int32) (s2 : Int32), p_ev scr 132 26 [.ref 24, .int x1, .int x2, .int x3, p_U, p_U] [.ref 24, .int s1, .int s2] w = p_ev scr 132 27 [.ref 24, .int x1, .int x2, .int x3, p_U, p_U] [.int x1, .ref 24, .int s1, .int s2] w) ∧
  (∀ (scr : pX) (w : pW) (x1 : Int32) (x2 : Int32) (x3 : Int32) (s0 : Int32) (s2 : Int32) (s3 : Int32), p_ev scr 132 27 [.ref 24, .int x1, .int x2, .int x3, p_U, p_U] [.int s0, .ref 24, .int s2, .int s3] w = p_bnd scr 132 27 30 [.ref 24, .int x1, .int x2, .int x3, p_U, p_U] [.int s2, .int s3] (p_ev none 101 0 [.ref 24, .int s0, p_U, p_U] [] w)) ∧
  (∀ (scr : pX) (w : pW) (x1 : Int32) (x2 : Int32) (x3 : Int32) (s0 : Int32) (s1 : Int32) (s2 : Int32), p_ev scr 132 30 [.ref 24, .int x1, .int x2, .int x3, p_U, p_U] [.int s0, .int s1, .int s2] w = p_ev scr 132 31 [.ref 24, .int x1, .int x2, .int x3, p_U, p_U] [.int (nI 1), .int s0, .int s1, .int s2] w) ∧
  (∀ (scr : pX) (w : pW) (x1 : Int32) (x2 : Int32) (x3 : Int32) (s0 : Int32) (s1 : Int32) (s2 : Int32) (s3 : Int32), p_ev scr 132 31 [.ref 24, .int x1, .int x2, .int x3, p_U, p_U] [.int s0, .int s1, .int s2, .int s3] w = p_ev scr 132 32 [.ref 24, .int x1, .int x2, .int x3, p_U, p_U] [.int (s1 - s0), .int s2, .int s3] w) ∧
  (∀ (scr : pX) (w : pW) (x1 : Int32) (x2 : Int32) (x3 : Int32) (s0 : Int32) (s1 : Int32) (s2 : Int32), p_ev scr 132 32 [.ref 24, .int x1, .int x2, .int x3, p_U, p_U] [.int s0, .int s1, .int s2] w = p_bnd scr 132 32 35 [.ref 24, .int x1, .int x2, .int x3, p_U, p_U] [] (p_ev none 97 0 [.int s2, .int s1, .int s0] [] w)) ∧
  (∀ (scr : pX) (w : pW) (x1 : Int32) (x2 : Int32) (x3 : Int32) (s0 : Int32), p_ev scr 132 35 [.ref 24, .int x1, .int x2, .int x3, p_U, p_U] [.int s0] w = if ¬ s0 = nI 0 then p_ev scr 132 45 [.ref 24, .int x1, .int x2, .int x3, p_U, p_U] [] w else p_ev scr 132 38 [.ref 24, .int x1, .int x2, .int x3, p_U, p_U] [] w) ∧
  (∀ (scr : pX) (w : pW) (x1 : Int32) (x2 : Int32) (x3 : Int32), p_ev scr 132 38 [.ref 24, .int x1, .int x2, .int x3, p_U, p_U] [] w = p_ev scr 132 39 [.ref 24, .int x1, .int x2, .int x3, p_U, p_U] [.ref 24] w) ∧
  (∀ (scr : pX) (w : pW) (x1 : Int32) (x2 : Int32) (x3 : Int32), p_ev scr 132 39 [.ref 24, .int x1, .int x2, .int x3, p_U, p_U] [.ref 24] w = p_ev scr 132 40 [.ref 24, .int x1, .int x2, .int x3, p_U, p_U] [.int (nI 1), .ref 24] w) ∧
  (∀ (scr : pX) (w : pW) (x1 : Int32) (x2 : Int32) (x3 : Int32) (s0 : Int32), p_ev scr 132 40 [.ref 24, .int x1, .int x2, .int x3, p_U, p_U] [.int s0, .ref 24] w = p_bnd scr 132 40 43 [.ref 24, .int x1, .int x2, .int x3, p_U, p_U] [] (p_ev none 96 0 [.ref 24, .int s0] [] w)) ∧
  (∀ (scr : pX) (w : pW) (x1 : Int32) (x2 : Int32) (x3 : Int32) (s0 : Int32), p_ev scr 132 43 [.ref 24, .int x1, .int x2, .int x3, p_U, p_U] [.int s0] w = p_ev scr 132 44 [.ref 24, .int x1, .int x2, .int x3, p_U, p_U] [.long s0.toInt64] w) ∧
  (∀ (scr : pX) (w : pW) (x1 : Int32) (x2 : Int32) (x3 : Int32) (t0 : Int64), p_ev scr 132 44 [.ref 24, .int x1, .int x2, .int x3, p_U, p_U] [.long t0] w = some (.inl (some (.long t0)), w, 0)) ∧
  (∀ (scr : pX) (w : pW) (x1 : Int32) (x2 : Int32) (x3 : Int32), p_ev scr 132 45 [.ref 24, .int x1, .int x2, .int x3, p_U, p_U] [] w = p_ev scr 132 46 [.ref 24, .int x1, .int x2, .int x3, p_U, p_U] [.ref 24] w) ∧
  (∀ (scr : pX) (w : pW) (x1 : Int32) (x2 : Int32) (x3 : Int32), p_ev scr 132 46 [.ref 24, .int x1, .int x2, .int x3, p_U, p_U] [.ref 24] w = p_ev scr 132 49 [.ref 24, .int x1, .int x2, .int x3, p_U, p_U] [.ref 25] w) ∧
  (∀ (scr : pX) (w : pW) (x1 : Int32) (x2 : Int32) (x3 : Int32), p_ev scr 132 49 [.ref 24, .int x1, .int x2, .int x3, p_U, p_U] [.ref 25] w = p_ev scr 132 50 [.ref 24, .int x1, .int x2, .int x3, p_U, p_U] [.int x1, .ref 25] w) ∧
  (∀ (scr : pX) (w : pW) (x1 : Int32) (x2 : Int32) (x3 : Int32) (s0 : Int32), p_out s0 16 = false → p_ev scr 132 50 [.ref 24, .int x1, .int x2, .int x3, p_U, p_U] [.int s0, .ref 25] w = p_ev scr 132 51 [.ref 24, .int x1, .int x2, .int x3, p_U, p_U] [.int (w.2.2 25 s0.toNatClampNeg)] w) ∧
  (∀ (scr : pX) (w : pW) (x1 : Int32) (x2 : Int32) (x3 : Int32) (s0 : Int32), p_ev scr 132 51 [.ref 24, .int x1, .int x2, .int x3, p_U, p_U] [.int s0] w = p_ev scr 132 52 [.ref 24, .int x1, .int x2, .int x3, p_U, p_U] [.int (nI 1), .int s0] w) ∧
  (∀ (scr : pX) (w : pW) (x1 : Int32) (x2 : Int32) (x3 : Int32) (s0 : Int32) (s1 : Int32), p_ev scr 132 52 [.ref 24, .int x1, .int x2, .int x3, p_U, p_U] [.int s0, .int s1] w = if s1 = s0 then p_ev scr 132 62 [.ref 24, .int x1, .int x2, .int x3, p_U, p_U] [] w else p_ev scr 132 55 [.ref 24, .int x1, .int x2, .int x3, p_U, p_U] [] w) ∧
  (∀ (scr : pX) (w : pW) (x1 : Int32) (x2 : Int32) (x3 : Int32), p_ev scr 132 55 [.ref 24, .int x1, .int x2, .int x3, p_U, p_U] [] w = p_ev scr 132 56 [.ref 24, .int x1, .int x2, .int x3, p_U, p_U] [.ref 24] w) ∧
  (∀ (scr : pX) (w : pW) (x1 : Int32) (x2 : Int32) (x3 : Int32), p_ev scr 132 56 [.ref 24, .int x1, .int x2, .int x3, p_U, p_U] [.ref 24] w = p_ev scr 132 57 [.ref 24, .int x1, .int x2, .int x3, p_U, p_U] [.int (nI 2), .ref 24] w) ∧
  (∀ (scr : pX) (w : pW) (x1 : Int32) (x2 : Int32) (x3 : Int32) (s0 : Int32), p_ev scr 132 57 [.ref 24, .int x1, .int x2, .int x3, p_U, p_U] [.int s0, .ref 24] w = p_bnd scr 132 57 60 [.ref 24, .int x1, .int x2, .int x3, p_U, p_U] [] (p_ev none 96 0 [.ref 24, .int s0] [] w)) ∧
  (∀ (scr : pX) (w : pW) (x1 : Int32) (x2 : Int32) (x3 : Int32) (s0 : Int32), p_ev scr 132 60 [.ref 24, .int x1, .int x2, .int x3, p_U, p_U] [.int s0] w = p_ev scr 132 61 [.ref 24, .int x1, .int x2, .int x3, p_U, p_U] [.long s0.toInt64] w) ∧
  (∀ (scr : pX) (w : pW) (x1 : Int32) (x2 : Int32) (x3 : Int32) (t0 : Int64), p_ev scr 132 61 [.ref 24, .int x1, .int x2, .int x3, p_U, p_U] [.long t0] w = some (.inl (some (.long t0)), w, 0)) ∧
  (∀ (scr : pX) (w : pW) (x1 : Int32) (x2 : Int32) (x3 : Int32), p_ev scr 132 62 [.ref 24, .int x1, .int x2, .int x3, p_U, p_U] [] w = p_ev scr 132 63 [.ref 24, .int x1, .int x2, .int x3, p_U, p_U] [.int x3] w) ∧
  (∀ (scr : pX) (w : pW) (x1 : Int32) (x2 : Int32) (x3 : Int32) (s0 : Int32), p_ev scr 132 63 [.ref 24, .int x1, .int x2, .int x3, p_U, p_U] [.int s0] w = p_ev scr 132 65 [.ref 24, .int x1, .int x2, .int x3, p_U, p_U] [.int (-100000 : Int32), .int s0] w) ∧
  (∀ (scr : pX) (w : pW) (x1 : Int32) (x2 : Int32) (x3 : Int32) (s0 : Int32) (s1 : Int32), p_ev scr 132 65 [.ref 24, .int x1, .int x2, .int x3, p_U, p_U] [.int s0, .int s1] w = p_ev scr 132 67 [.ref 24, .int x1, .int x2, .int x3, p_U, p_U] [.int (nI 100000), .int s0, .int s1] w) ∧
  (∀ (scr : pX) (w : pW) (x1 : Int32) (x2 : Int32) (x3 : Int32) (s0 : Int32) (s1 : Int32) (s2 : Int32), p_ev scr 132 67 [.ref 24, .int x1, .int x2, .int x3, p_U, p_U] [.int s0, .int s1, .int s2] w = p_bnd scr 132 67 70 [.ref 24, .int x1, .int x2, .int x3, p_U, p_U] [] (p_ev none 97 0 [.int s2, .int s1, .int s0] [] w)) ∧
  (∀ (scr : pX) (w : pW) (x1 : Int32) (x2 : Int32) (x3 : Int32) (s0 : Int32), p_ev scr 132 70 [.ref 24, .int x1, .int x2, .int x3, p_U, p_U] [.int s0] w = if ¬ s0 = nI 0 then p_ev scr 132 80 [.ref 24, .int x1, .int x2, .int x3, p_U, p_U] [] w else p_ev scr 132 73 [.ref 24, .int x1, .int x2, .int x3, p_U, p_U] [] w) ∧
  (∀ (scr : pX) (w : pW) (x1 : Int32) (x2 : Int32) (x3 : Int32), p_ev scr 132 73 [.ref 24, .int x1, .int x2, .int x3, p_U, p_U] [] w = p_ev scr 132 74 [.ref 24, .int x1, .int x2, .int x3, p_U, p_U] [.ref 24] w) ∧
  (∀ (scr : pX) (w : pW) (x1 : Int32) (x2 : Int32) (x3 : Int32), p_ev scr 132 74 [.ref 24, .int x1, .int x2, .int x3, p_U, p_U] [.ref 24] w = p_ev scr 132 75 [.ref 24, .int x1, .int x2, .int x3, p_U, p_U] [.int (nI 3), .ref 24] w) ∧
  (∀ (scr : pX) (w : pW) (x1 : Int32) (x2 : Int32) (x3 : Int32) (s0 : Int32), p_ev scr 132 75 [.ref 24, .int x1, .int x2, .int x3, p_U, p_U] [.int s0, .ref 24] w = p_bnd scr 132 75 78 [.ref 24, .int x1, .int x2, .int x3, p_U, p_U] [] (p_ev none 96 0 [.ref 24, .int s0] [] w)) ∧
  (∀ (scr : pX) (w : pW) (x1 : Int32) (x2 : Int32) (x3 : Int32) (s0 : Int32), p_ev scr 132 78 [.ref 24, .int x1, .int x2, .int x3, p_U, p_U] [.int s0] w = p_ev scr 132 79 [.ref 24, .int x1, .int x2, .int x3, p_U, p_U] [.long s0.toInt64] w) ∧
  (∀ (scr : pX) (w : pW) (x1 : Int32) (x2 : Int32) (x3 : Int32) (t0 : Int64), p_ev scr 132 79 [.ref 24, .int x1, .int x2, .int x3, p_U, p_U] [.long t0] w = some (.inl (some (.long t0)), w, 0)) ∧
  (∀ (scr : pX) (w : pW) (x1 : Int32) (x2 : Int32) (x3 : Int32), p_ev scr 132 80 [.ref 24, .int x1, .int x2, .int x3, p_U, p_U] [] w = p_ev scr 132 81 [.ref 24, .int x1, .int x2, .int x3, p_U, p_U] [.ref 24] w) ∧
  (∀ (scr : pX) (w : pW) (x1 : Int32) (x2 : Int32) (x3 : Int32), p_ev scr 132 81 [.ref 24, .int x1, .int x2, .int x3, p_U, p_U] [.ref 24] w = p_ev scr 132 84 [.ref 24, .int x1, .int x2, .int x3, p_U, p_U] [.ref 26] w) ∧
  (∀ (scr : pX) (w : pW) (x1 : Int32) (x2 : Int32) (x3 : Int32), p_ev scr 132 84 [.ref 24, .int x1, .int x2, .int x3, p_U, p_U] [.ref 26] w = p_ev scr 132 86 [.ref 24, .int x1, .int x2, .int x3, p_U, p_U] [.int (nI 32), .ref 26] w) ∧
  (∀ (scr : pX) (w : pW) (x1 : Int32) (x2 : Int32) (x3 : Int32) (s0 : Int32), p_ev scr 132 86 [.ref 24, .int x1, .int x2, .int x3, p_U, p_U] [.int s0, .ref 26] w = p_ev scr 132 87 [.ref 24, .int x1, .int x2, .int x3, p_U, p_U] [.int x1, .int s0, .ref 26] w) ∧
  (∀ (scr : pX) (w : pW) (x1 : Int32) (x2 : Int32) (x3 : Int32) (s0 : Int32) (s1 : Int32), p_ev scr 132 87 [.ref 24, .int x1, .int x2, .int x3, p_U, p_U] [.int s0, .int s1, .ref 26] w = p_ev scr 132 88 [.ref 24, .int x1, .int x2, .int x3, p_U, p_U] [.int (s1 * s0), .ref 26] w) ∧
  (∀ (scr : pX) (w : pW) (x1 : Int32) (x2 : Int32) (x3 : Int32) (s0 : Int32), p_ev scr 132 88 [.ref 24, .int x1, .int x2, .int x3, p_U, p_U] [.int s0, .ref 26] w = p_ev scr 132 89 [.ref 24, .int x1, .int x2, .int x3, p_U, p_U] [.int x2, .int s0, .ref 26] w) ∧
  (∀ (scr : pX) (w : pW) (x1 : Int32) (x2 : Int32) (x3 : Int32) (s0 : Int32) (s1 : Int32), p_ev scr 132 89 [.ref 24, .int x1, .int x2, .int x3, p_U, p_U] [.int s0, .int s1, .ref 26] w = p_ev scr 132 90 [.ref 24, .int x1, .int x2, .int x3, p_U, p_U] [.int (s1 + s0), .ref 26] w) ∧
  (∀ (scr : pX) (w : pW) (x1 : Int32) (x2 : Int32) (x3 : Int32) (s0 : Int32), p_out s0 512 = false → p_ev scr 132 90 [.ref 24, .int x1, .int x2, .int x3, p_U, p_U] [.int s0, .ref 26] w = p_ev scr 132 91 [.ref 24, .int x1, .int x2, .int x3, p_U, p_U] [.long (w.2.1 26 s0.toNatClampNeg)] w) ∧
  (∀ (scr : pX) (w : pW) (x1 : Int32) (x2 : Int32) (x3 : Int32) (t0 : Int64), p_ev scr 132 91 [.ref 24, .int x1, .int x2, .int x3, p_U, p_U] [.long t0] w = p_ev scr 132 93 [.ref 24, .int x1, .int x2, .int x3, .long t0, p_U] [] w) ∧
  (∀ (scr : pX) (w : pW) (x1 : Int32) (x2 : Int32) (x3 : Int32) (y4 : Int64), p_ev scr 132 93 [.ref 24, .int x1, .int x2, .int x3, .long y4, p_U] [] w = p_ev scr 132 94 [.ref 24, .int x1, .int x2, .int x3, .long y4, p_U] [.ref 24] w) ∧
  (∀ (scr : pX) (w : pW) (x1 : Int32) (x2 : Int32) (x3 : Int32) (y4 : Int64), p_ev scr 132 94 [.ref 24, .int x1, .int x2, .int x3, .long y4, p_U] [.ref 24] w = p_ev scr 132 97 [.ref 24, .int x1, .int x2, .int x3, .long y4, p_U] [.ref 26] w) ∧
  (∀ (scr : pX) (w : pW) (x1 : Int32) (x2 : Int32) (x3 : Int32) (y4 : Int64), p_ev scr 132 97 [.ref 24, .int x1, .int x2, .int x3, .long y4, p_U] [.ref 26] w = p_ev scr 132 99 [.ref 24, .int x1, .int x2, .int x3, .long y4, p_U] [.int (nI 32), .ref 26] w) ∧
  (∀ (scr : pX) (w : pW) (x1 : Int32) (x2 : Int32) (x3 : Int32) (y4 : Int64) (s0 : Int32), p_ev scr 132 99 [.ref 24, .int x1, .int x2, .int x3, .long y4, p_U] [.int s0, .ref 26] w = p_ev scr 132 100 [.ref 24, .int x1, .int x2, .int x3, .long y4, p_U] [.int x1, .int s0, .ref 26] w) ∧
  (∀ (scr : pX) (w : pW) (x1 : Int32) (x2 : Int32) (x3 : Int32) (y4 : Int64) (s0 : Int32) (s1 : Int32), p_ev scr 132 100 [.ref 24, .int x1, .int x2, .int x3, .long y4, p_U] [.int s0, .int s1, .ref 26] w = p_ev scr 132 101 [.ref 24, .int x1, .int x2, .int x3, .long y4, p_U] [.int (s1 * s0), .ref 26] w) ∧
  (∀ (scr : pX) (w : pW) (x1 : Int32) (x2 : Int32) (x3 : Int32) (y4 : Int64) (s0 : Int32), p_ev scr 132 101 [.ref 24, .int x1, .int x2, .int x3, .long y4, p_U] [.int s0, .ref 26] w = p_ev scr 132 102 [.ref 24, .int x1, .int x2, .int x3, .long y4, p_U] [.int x2, .int s0, .ref 26] w) ∧
  (∀ (scr : pX) (w : pW) (x1 : Int32) (x2 : Int32) (x3 : Int32) (y4 : Int64) (s0 : Int32) (s1 : Int32), p_ev scr 132 102 [.ref 24, .int x1, .int x2, .int x3, .long y4, p_U] [.int s0, .int s1, .ref 26] w = p_ev scr 132 103 [.ref 24, .int x1, .int x2, .int x3, .long y4, p_U] [.int (s1 + s0), .ref 26] w) ∧
  (∀ (scr : pX) (w : pW) (x1 : Int32) (x2 : Int32) (x3 : Int32) (y4 : Int64) (s0 : Int32), p_ev scr 132 103 [.ref 24, .int x1, .int x2, .int x3, .long y4, p_U] [.int s0, .ref 26] w = p_ev scr 132 104 [.ref 24, .int x1, .int x2, .int x3, .long y4, p_U] [.int x3, .int s0, .ref 26] w) ∧
  (∀ (scr : pX) (w : pW) (x1 : Int32) (x2 : Int32) (x3 : Int32) (y4 : Int64) (s0 : Int32) (s1 : Int32), p_ev scr 132 104 [.ref 24, .int x1, .int x2, .int x3, .long y4, p_U] [.int s0, .int s1, .ref 26] w = p_ev scr 132 105 [.ref 24, .int x1, .int x2, .int x3, .long y4, p_U] [.long s0.toInt64, .int s1, .ref 26] w) ∧
  (∀ (scr : pX) (w : pW) (x1 : Int32) (x2 : Int32) (x3 : Int32) (y4 : Int64) (t0 : Int64) (s1 : Int32), p_out s1 512 = false → p_ev scr 132 105 [.ref 24, .int x1, .int x2, .int x3, .long y4, p_U] [.long t0, .int s1, .ref 26] w = p_ev scr 132 106 [.ref 24, .int x1, .int x2, .int x3, .long y4, p_U] [] (w.1, p_u w.2.1 26 s1.toNatClampNeg t0, w.2.2)) ∧
  (∀ (scr : pX) (w : pW) (x1 : Int32) (x2 : Int32) (x3 : Int32) (y4 : Int64), p_ev scr 132 106 [.ref 24, .int x1, .int x2, .int x3, .long y4, p_U] [] w = p_ev scr 132 108 [.ref 24, .int x1, .int x2, .int x3, .long y4, p_U] [.long y4] w) ∧
  (∀ (scr : pX) (w : pW) (x1 : Int32) (x2 : Int32) (x3 : Int32) (y4 : Int64) (t0 : Int64), p_ev scr 132 108 [.ref 24, .int x1, .int x2, .int x3, .long y4, p_U] [.long t0] w = some (.inl (some (.long t0)), w, 0)) :=
  ⟨fun _ _ _ _ _ => p_r (by decide +kernel : p_at 132 0 = some (.aload_n 0)) rfl,
  fun _ _ _ _ _ => p_r (by decide +kernel : p_at 132 1 = some (.iconst 0)) rfl,
  fun _ _ _ _ _ _ => p_rpf (by decide +kernel : p_at 132 2 = some (.putfield 63)) (by decide +kernel : p_fld (p_own 132) 63 = some (5, 4)) (rfl : p_ob 24 = some (.inr (5, [some 25, some 26, none, none, none, some 27, some 28, some 29, some 30, some 31, some 32, some 33, some 34, some 35, some 36, some 37, some 38, some 39, none, none, some 40]))) rfl,
  fun _ _ _ _ _ => p_r (by decide +kernel : p_at 132 5 = some (.aload_n 0)) rfl,
  fun _ _ _ _ _ => p_r (by decide +kernel : p_at 132 6 = some (.iload_n 1)) rfl,
  fun _ _ _ _ _ _ => p_rcv (nl := 2) (by decide +kernel : p_at 132 7 = some (.invokevirtual 135)) (by decide +kernel : p_inv (p_own 132) 135 = some (1, 102, 2)) (by decide +kernel) (rfl : p_ob 24 = some (.inr (5, [some 25, some 26, none, none, none, some 27, some 28, some 29, some 30, some 31, some 32, some 33, some 34, some 35, some 36, some 37, some 38, some 39, none, none, some 40]))) rfl rfl (Nat.le_of_ble_eq_true rfl) (Nat.le_of_ble_eq_true rfl) (Nat.le_of_ble_eq_true rfl) rfl,
  fun _ _ _ _ _ _ => p_rb1 (c := fun x => decide (x = 0)) (off := 28) (by decide +kernel : p_at 132 10 = some (.ifCond .eq 28)) (by decide +kernel) rfl rfl rfl,
  fun _ _ _ _ _ => p_r (by decide +kernel : p_at 132 13 = some (.aload_n 0)) rfl,
  fun _ _ _ _ _ => p_rgf (f := some 25) (by decide +kernel : p_at 132 14 = some (.getfield 7)) (by decide +kernel : p_fld (p_own 132) 7 = some (5, 0)) (rfl : p_ob 24 = some (.inr (5, [some 25, some 26, none, none, none, some 27, some 28, some 29, some 30, some 31, some 32, some 33, some 34, some 35, some 36, some 37, some 38, some 39, none, none, some 40]))) rfl,
  fun _ _ _ _ _ => p_r (by decide +kernel : p_at 132 17 = some (.iload_n 1)) rfl,
  fun _ _ _ _ _ _ hp => p_riald (by decide +kernel : p_at 132 18 = some (.iaload)) (rfl : p_ob 25 = some (.inl (1, 16))) hp,
  fun _ _ _ _ _ _ => p_r (by decide +kernel : p_at 132 19 = some (.iconst 1)) rfl,
  fun _ _ _ _ _ _ _ => p_rb2 (c := fun x y => decide (¬ x = y)) (off := 25) (by decide +kernel : p_at 132 20 = some (.if_icmp .ne 25)) (by decide +kernel) rfl rfl rfl,
  fun _ _ _ _ _ => p_r (by decide +kernel : p_at 132 23 = some (.iload_n 2)) rfl,
  fun _ _ _ _ _ _ => p_r (by decide +kernel : p_at 132 24 = some (.iconst 0)) rfl,
  fun _ _ _ _ _ _ _ => p_r (by decide +kernel : p_at 132 25 = some (.aload_n 0)) rfl,
  fun _ _ _ _ _ _ _ => p_r (by decide +kernel : p_at 132 26 = some (.iload_n 1)) rfl,
  fun _ _ _ _ _ _ _ _ => p_rcv (nl := 4) (by decide +kernel : p_at 132 27 = some (.invokevirtual 113)) (by decide +kernel : p_inv (p_own 132) 113 = some (1, 101, 2)) (by decide +kernel) (rfl : p_ob 24 = some (.inr (5, [some 25, some 26, none, none, none, some 27, some 28, some 29, some 30, some 31, some 32, some 33, some 34, some 35, some 36, some 37, some 38, some 39, none, none, some 40]))) rfl rfl (Nat.le_of_ble_eq_true rfl) (Nat.le_of_ble_eq_true rfl) (Nat.le_of_ble_eq_true rfl) rfl,
  fun _ _ _ _ _ _ _ _ => p_r (by decide +kernel : p_at 132 30 = some (.iconst 1)) rfl,
  fun _ _ _ _ _ _ _ _ _ => p_r (by decide +kernel : p_at 132 31 = some (.isub)) rfl,
  fun _ _ _ _ _ _ _ _ => p_rcs (nl := 3) (by decide +kernel : p_at 132 32 = some (.invokestatic 72)) (by decide +kernel : p_inv (p_own 132) 72 = some (1, 97, 3)) (by decide +kernel) rfl rfl (Nat.le_of_ble_eq_true rfl) (Nat.le_of_ble_eq_true rfl) (Nat.le_of_ble_eq_true rfl) rfl,
  fun _ _ _ _ _ _ => p_rb1 (c := fun x => decide (¬ x = 0)) (off := 10) (by decide +kernel : p_at 132 35 = some (.ifCond .ne 10)) (by decide +kernel) rfl rfl rfl,
  fun _ _ _ _ _ => p_r (by decide +kernel : p_at 132 38 = some (.aload_n 0)) rfl,
  fun _ _ _ _ _ => p_r (by decide +kernel : p_at 132 39 = some (.iconst 1)) rfl,
  fun _ _ _ _ _ _ => p_rcv (nl := 2) (by decide +kernel : p_at 132 40 = some (.invokevirtual 76)) (by decide +kernel : p_inv (p_own 132) 76 = some (1, 96, 2)) (by decide +kernel) (rfl : p_ob 24 = some (.inr (5, [some 25, some 26, none, none, none, some 27, some 28, some 29, some 30, some 31, some 32, some 33, some 34, some 35, some 36, some 37, some 38, some 39, none, none, some 40]))) rfl rfl (Nat.le_of_ble_eq_true rfl) (Nat.le_of_ble_eq_true rfl) (Nat.le_of_ble_eq_true rfl) rfl,
  fun _ _ _ _ _ _ => p_r (by decide +kernel : p_at 132 43 = some (.i2l)) rfl,
  fun _ _ _ _ _ _ => p_rlret (by decide +kernel : p_at 132 44 = some (.lreturn)) (by decide +kernel),
  fun _ _ _ _ _ => p_r (by decide +kernel : p_at 132 45 = some (.aload_n 0)) rfl,
  fun _ _ _ _ _ => p_rgf (f := some 25) (by decide +kernel : p_at 132 46 = some (.getfield 7)) (by decide +kernel : p_fld (p_own 132) 7 = some (5, 0)) (rfl : p_ob 24 = some (.inr (5, [some 25, some 26, none, none, none, some 27, some 28, some 29, some 30, some 31, some 32, some 33, some 34, some 35, some 36, some 37, some 38, some 39, none, none, some 40]))) rfl,
  fun _ _ _ _ _ => p_r (by decide +kernel : p_at 132 49 = some (.iload_n 1)) rfl,
  fun _ _ _ _ _ _ hp => p_riald (by decide +kernel : p_at 132 50 = some (.iaload)) (rfl : p_ob 25 = some (.inl (1, 16))) hp,
  fun _ _ _ _ _ _ => p_r (by decide +kernel : p_at 132 51 = some (.iconst 1)) rfl,
  fun _ _ _ _ _ _ _ => p_rb2 (c := fun x y => decide (x = y)) (off := 10) (by decide +kernel : p_at 132 52 = some (.if_icmp .eq 10)) (by decide +kernel) rfl rfl rfl,
  fun _ _ _ _ _ => p_r (by decide +kernel : p_at 132 55 = some (.aload_n 0)) rfl,
  fun _ _ _ _ _ => p_r (by decide +kernel : p_at 132 56 = some (.iconst 2)) rfl,
  fun _ _ _ _ _ _ => p_rcv (nl := 2) (by decide +kernel : p_at 132 57 = some (.invokevirtual 76)) (by decide +kernel : p_inv (p_own 132) 76 = some (1, 96, 2)) (by decide +kernel) (rfl : p_ob 24 = some (.inr (5, [some 25, some 26, none, none, none, some 27, some 28, some 29, some 30, some 31, some 32, some 33, some 34, some 35, some 36, some 37, some 38, some 39, none, none, some 40]))) rfl rfl (Nat.le_of_ble_eq_true rfl) (Nat.le_of_ble_eq_true rfl) (Nat.le_of_ble_eq_true rfl) rfl,
  fun _ _ _ _ _ _ => p_r (by decide +kernel : p_at 132 60 = some (.i2l)) rfl,
  fun _ _ _ _ _ _ => p_rlret (by decide +kernel : p_at 132 61 = some (.lreturn)) (by decide +kernel),
  fun _ _ _ _ _ => p_r (by decide +kernel : p_at 132 62 = some (.iload_n 3)) rfl,
  fun _ _ _ _ _ _ => p_rldcI (by decide +kernel : p_at 132 63 = some (.ldc 160)) (by decide +kernel),
  fun _ _ _ _ _ _ _ => p_rldcI (by decide +kernel : p_at 132 65 = some (.ldc 161)) (by decide +kernel),
  fun _ _ _ _ _ _ _ _ => p_rcs (nl := 3) (by decide +kernel : p_at 132 67 = some (.invokestatic 72)) (by decide +kernel : p_inv (p_own 132) 72 = some (1, 97, 3)) (by decide +kernel) rfl rfl (Nat.le_of_ble_eq_true rfl) (Nat.le_of_ble_eq_true rfl) (Nat.le_of_ble_eq_true rfl) rfl,
  fun _ _ _ _ _ _ => p_rb1 (c := fun x => decide (¬ x = 0)) (off := 10) (by decide +kernel : p_at 132 70 = some (.ifCond .ne 10)) (by decide +kernel) rfl rfl rfl,
  fun _ _ _ _ _ => p_r (by decide +kernel : p_at 132 73 = some (.aload_n 0)) rfl,
  fun _ _ _ _ _ => p_r (by decide +kernel : p_at 132 74 = some (.iconst 3)) rfl,
  fun _ _ _ _ _ _ => p_rcv (nl := 2) (by decide +kernel : p_at 132 75 = some (.invokevirtual 76)) (by decide +kernel : p_inv (p_own 132) 76 = some (1, 96, 2)) (by decide +kernel) (rfl : p_ob 24 = some (.inr (5, [some 25, some 26, none, none, none, some 27, some 28, some 29, some 30, some 31, some 32, some 33, some 34, some 35, some 36, some 37, some 38, some 39, none, none, some 40]))) rfl rfl (Nat.le_of_ble_eq_true rfl) (Nat.le_of_ble_eq_true rfl) (Nat.le_of_ble_eq_true rfl) rfl,
  fun _ _ _ _ _ _ => p_r (by decide +kernel : p_at 132 78 = some (.i2l)) rfl,
  fun _ _ _ _ _ _ => p_rlret (by decide +kernel : p_at 132 79 = some (.lreturn)) (by decide +kernel),
  fun _ _ _ _ _ => p_r (by decide +kernel : p_at 132 80 = some (.aload_n 0)) rfl,
  fun _ _ _ _ _ => p_rgf (f := some 26) (by decide +kernel : p_at 132 81 = some (.getfield 13)) (by decide +kernel : p_fld (p_own 132) 13 = some (5, 1)) (rfl : p_ob 24 = some (.inr (5, [some 25, some 26, none, none, none, some 27, some 28, some 29, some 30, some 31, some 32, some 33, some 34, some 35, some 36, some 37, some 38, some 39, none, none, some 40]))) rfl,
  fun _ _ _ _ _ => p_r (by decide +kernel : p_at 132 84 = some (.bipush 32)) rfl,
  fun _ _ _ _ _ _ => p_r (by decide +kernel : p_at 132 86 = some (.iload_n 1)) rfl,
  fun _ _ _ _ _ _ _ => p_r (by decide +kernel : p_at 132 87 = some (.imul)) rfl,
  fun _ _ _ _ _ _ => p_r (by decide +kernel : p_at 132 88 = some (.iload_n 2)) rfl,
  fun _ _ _ _ _ _ _ => p_r (by decide +kernel : p_at 132 89 = some (.iadd)) rfl,
  fun _ _ _ _ _ _ hp => p_rlald (by decide +kernel : p_at 132 90 = some (.laload)) (rfl : p_ob 26 = some (.inl (2, 512))) hp,
  fun _ _ _ _ _ _ => p_r (by decide +kernel : p_at 132 91 = some (.lstore 4)) rfl,
  fun _ _ _ _ _ _ => p_r (by decide +kernel : p_at 132 93 = some (.aload_n 0)) rfl,
  fun _ _ _ _ _ _ => p_rgf (f := some 26) (by decide +kernel : p_at 132 94 = some (.getfield 13)) (by decide +kernel : p_fld (p_own 132) 13 = some (5, 1)) (rfl : p_ob 24 = some (.inr (5, [some 25, some 26, none, none, none, some 27, some 28, some 29, some 30, some 31, some 32, some 33, some 34, some 35, some 36, some 37, some 38, some 39, none, none, some 40]))) rfl,
  fun _ _ _ _ _ _ => p_r (by decide +kernel : p_at 132 97 = some (.bipush 32)) rfl,
  fun _ _ _ _ _ _ _ => p_r (by decide +kernel : p_at 132 99 = some (.iload_n 1)) rfl,
  fun _ _ _ _ _ _ _ _ => p_r (by decide +kernel : p_at 132 100 = some (.imul)) rfl,
  fun _ _ _ _ _ _ _ => p_r (by decide +kernel : p_at 132 101 = some (.iload_n 2)) rfl,
  fun _ _ _ _ _ _ _ _ => p_r (by decide +kernel : p_at 132 102 = some (.iadd)) rfl,
  fun _ _ _ _ _ _ _ => p_r (by decide +kernel : p_at 132 103 = some (.iload_n 3)) rfl,
  fun _ _ _ _ _ _ _ _ => p_r (by decide +kernel : p_at 132 104 = some (.i2l)) rfl,
  fun _ _ _ _ _ _ _ _ hp => p_rlast (by decide +kernel : p_at 132 105 = some (.lastore)) (rfl : p_ob 26 = some (.inl (2, 512))) hp,
  fun _ _ _ _ _ _ => p_r (by decide +kernel : p_at 132 106 = some (.lload 4)) rfl,
  fun _ _ _ _ _ _ _ => p_rlret (by decide +kernel : p_at 132 108 = some (.lreturn)) (by decide +kernel)⟩
-- 133: filtered
theorem M133 :
  (∀ (scr : pX) (w : pW) (x1 : Int32) (x2 : Int32), p_ev scr 133 0 [.ref 24, .int x1, .int x2, p_U, p_U, p_U] [] w = p_ev scr 133 1 [.ref 24, .int x1, .int x2, p_U, p_U, p_U] [.ref 24] w) ∧
  (∀ (scr : pX) (w : pW) (x1 : Int32) (x2 : Int32), p_ev scr 133 1 [.ref 24, .int x1, .int x2, p_U, p_U, p_U] [.ref 24] w = p_ev scr 133 2 [.ref 24, .int x1, .int x2, p_U, p_U, p_U] [.int (nI 0), .ref 24] w) ∧
  (∀ (scr : pX) (w : pW) (x1 : Int32) (x2 : Int32) (s0 : Int32), p_ev scr 133 2 [.ref 24, .int x1, .int x2, p_U, p_U, p_U] [.int s0, .ref 24] w = p_ev scr 133 5 [.ref 24, .int x1, .int x2, p_U, p_U, p_U] [] (p_u w.1 24 4 s0, w.2)) ∧
  (∀ (scr : pX) (w : pW) (x1 : Int32) (x2 : Int32), p_ev scr 133 5 [.ref 24, .int x1, .int x2, p_U, p_U, p_U] [] w = p_ev scr 133 6 [.ref 24, .int x1, .int x2, p_U, p_U, p_U] [.ref 24] w) ∧
  (∀ (scr : pX) (w : pW) (x1 : Int32) (x2 : Int32), p_ev scr 133 6 [.ref 24, .int x1, .int x2, p_U, p_U, p_U] [.ref 24] w = p_ev scr 133 7 [.ref 24, .int x1, .int x2, p_U, p_U, p_U] [.int x1, .ref 24] w) ∧
  (∀ (scr : pX) (w : pW) (x1 : Int32) (x2 : Int32) (s0 : Int32), p_ev scr 133 7 [.ref 24, .int x1, .int x2, p_U, p_U, p_U] [.int s0, .ref 24] w = p_bnd scr 133 7 10 [.ref 24, .int x1, .int x2, p_U, p_U, p_U] [] (p_ev none 102 0 [.ref 24, .int s0] [] w)) ∧
  (∀ (scr : pX) (w : pW) (x1 : Int32) (x2 : Int32) (s0 : Int32), p_ev scr 133 10 [.ref 24, .int x1, .int x2, p_U, p_U, p_U] [.int s0] w = if s0 = nI 0 then p_ev scr 133 40 [.ref 24, .int x1, .int x2, p_U, p_U, p_U] [] w else p_ev scr 133 13 [.ref 24, .int x1, .int x2, p_U, p_U, p_U] [] w) ∧
  (∀ (scr : pX) (w : pW) (x1 : Int32) (x2 : Int32), p_ev scr 133 13 [.ref 24, .int x1, .int x2, p_U, p_U, p_U] [] w = p_ev scr 133 14 [.ref 24, .int x1, .int x2, p_U, p_U, p_U] [.ref 24] w) ∧
  (∀ (scr : pX) (w : pW) (x1 : Int32) (x2 : Int32), p_ev scr 133 14 [.ref 24, .int x1, .int x2, p_U, p_U, p_U] [.ref 24] w = p_ev scr 133 17 [.ref 24, .int x1, .int x2, p_U, p_U, p_U] [.ref 25] w) ∧
  (∀ (scr : pX) (w : pW) (x1 : Int32) (x2 : Int32), p_ev scr 133 17 [.ref 24, .int x1, .int x2, p_U, p_U, p_U] [.ref 25] w = p_ev scr 133 18 [.ref 24, .int x1, .int x2, p_U, p_U, p_U] [.int x1, .ref 25] w) ∧
  (∀ (scr : pX) (w : pW) (x1 : Int32) (x2 : Int32) (s0 : Int32), p_out s0 16 = false → p_ev scr 133 18 [.ref 24, .int x1, .int x2, p_U, p_U, p_U] [.int s0, .ref 25] w = p_ev scr 133 19 [.ref 24, .int x1, .int x2, p_U, p_U, p_U] [.int (w.2.2 25 s0.toNatClampNeg)] w) ∧
  (∀ (scr : pX) (w : pW) (x1 : Int32) (x2 : Int32) (s0 : Int32), p_ev scr 133 19 [.ref 24, .int x1, .int x2, p_U, p_U, p_U] [.int s0] w = p_ev scr 133 20 [.ref 24, .int x1, .int x2, p_U, p_U, p_U] [.int (nI 1), .int s0] w) ∧
  (∀ (scr : pX) (w : pW) (x1 : Int32) (x2 : Int32) (s0 : Int32) (s1 : Int32), p_ev scr 133 20 [.ref 24, .int x1, .int x2, p_U, p_U, p_U] [.int s0, .int s1] w = if ¬ s1 = s0 then p_ev scr 133 47 [.ref 24, .int x1, .int x2, p_U, p_U, p_U] [] w else p_ev scr 133 23 [.ref 24, .int x1, .int x2, p_U, p_U, p_U] [] w) ∧
  (∀ (scr : pX) (w : pW) (x1 : Int32) (x2 : Int32), p_ev scr 133 23 [.ref 24, .int x1, .int x2, p_U, p_U, p_U] [] w = p_ev scr 133 24 [.ref 24, .int x1, .int x2, p_U, p_U, p_U] [.int x2] w) ∧
  (∀ (scr : pX) (w : pW) (x1 : Int32) (x2 : Int32) (s0 : Int32), p_ev scr 133 24 [.ref 24, .int x1, .int x2, p_U, p_U, p_U] [.int s0] w = p_ev scr 133 25 [.ref 24, .int x1, .int x2, p_U, p_U, p_U] [.int (nI 0), .int s0] w) ∧
  (∀ (scr : pX) (w : pW) (x1 : Int32) (x2 : Int32) (s0 : Int32) (s1 : Int32), p_ev scr 133 25 [.ref 24, .int x1, .int x2, p_U, p_U, p_U] [.int s0, .int s1] w = p_ev scr 133 26 [.ref 24, .int x1, .int x2, p_U, p_U, p_U] [.ref 24, .int s0, .int s1] w) ∧
  (∀ (scr : pX) (w : pW) (x1 : Int32) (x2 : Int32) (s1 : Int32) (s2 : Int32), p_ev scr 133 26 [.ref 24, .int x1, .int x2, p_U, p_U, p_U] [.ref 24, .int s1, .int s2] w = p_ev scr 133 27 [.ref 24, .int x1, .int x2, p_U, p_U, p_U] [.int x1, .ref 24, .int s1, .int s2] w) ∧
  (∀ (scr : pX) (w : pW) (x1 : Int32) (x2 : Int32) (s0 : Int32) (s2 : Int32) (s3 : Int32), p_ev scr 133 27 [.ref 24, .int x1, .int x2, p_U, p_U, p_U] [.int s0, .ref 24, .int s2, .int s3] w = p_bnd scr 133 27 30 [.ref 24, .int x1, .int x2, p_U, p_U, p_U] [.int s2, .int s3] (p_ev none 101 0 [.ref 24, .int s0, p_U, p_U] [] w)) ∧
  (∀ (scr : pX) (w : pW) (x1 : Int32) (x2 : Int32) (s0 : Int32) (s1 : Int32) (s2 : Int32), p_ev scr 133 30 [.ref 24, .int x1, .int x2, p_U, p_U, p_U] [.int s0, .int s1, .int s2] w = p_ev scr 133 31 [.ref 24, .int x1, .int x2, p_U, p_U, p_U] [.int (nI 2), .int s0, .int s1, .int s2] w) ∧
  (∀ (scr : pX) (w : pW) (x1 : Int32) (x2 : Int32) (s0 : Int32) (s1 : Int32) (s2 : Int32) (s3 : Int32), ¬ s0 = 0 → p_ev scr 133 31 [.ref 24, .int x1, .int x2, p_U, p_U, p_U] [.int s0, .int s1, .int s2, .int s3] w = p_ev scr 133 32 [.ref 24, .int x1, .int x2, p_U, p_U, p_U] [.int (s1 / s0), .int s2, .int s3] w) ∧
  (∀ (scr : pX) (w : pW) (x1 : Int32) (x2 : Int32) (s0 : Int32) (s1 : Int32) (s2 : Int32), p_ev scr 133 32 [.ref 24, .int x1, .int x2, p_U, p_U, p_U] [.int s0, .int s1, .int s2] w = p_ev scr 133 33 [.ref 24, .int x1, .int x2, p_U, p_U, p_U] [.int (nI 1), .int s0, .int s1, .int s2] w) ∧
  (∀ (scr : pX) (w : pW) (x1 : Int32) (x2 : Int32) (s0 : Int32) (s1 : Int32) (s2 : Int32) (s3 : Int32), p_ev scr 133 33 [.ref 24, .int x1, .int x2, p_U, p_U, p_U] [.int s0, .int s1, .int s2, .int s3] w = p_ev scr 133 34 [.ref 24, .int x1, .int x2, p_U, p_U, p_U] [.int (s1 - s0), .int s2, .int s3] w) ∧
  (∀ (scr : pX) (w : pW) (x1 : Int32) (x2 : Int32) (s0 : Int32) (s1 : Int32) (s2 : Int32), p_ev scr 133 34 [.ref 24, .int x1, .int x2, p_U, p_U, p_U] [.int s0, .int s1, .int s2] w = p_bnd scr 133 34 37 [.ref 24, .int x1, .int x2, p_U, p_U, p_U] [] (p_ev none 97 0 [.int s2, .int s1, .int s0] [] w)) ∧
  (∀ (scr : pX) (w : pW) (x1 : Int32) (x2 : Int32) (s0 : Int32), p_ev scr 133 37 [.ref 24, .int x1, .int x2, p_U, p_U, p_U] [.int s0] w = if ¬ s0 = nI 0 then p_ev scr 133 47 [.ref 24, .int x1, .int x2, p_U, p_U, p_U] [] w else p_ev scr 133 40 [.ref 24, .int x1, .int x2, p_U, p_U, p_U] [] w) ∧
  (∀ (scr : pX) (w : pW) (x1 : Int32) (x2 : Int32), p_ev scr 133 40 [.ref 24, .int x1, .int x2, p_U, p_U, p_U] [] w = p_ev scr 133 41 [.ref 24, .int x1, .int x2, p_U, p_U, p_U] [.ref 24] w) ∧
  (∀ (scr : pX) (w : pW) (x1 : Int32) (x2 : Int32), p_ev scr 133 41 [.ref 24, .int x1, .int x2, p_U, p_U, p_U] [.ref 24] w = p_ev scr 133 42 [.ref 24, .int x1, .int x2, p_U, p_U, p_U] [.int (nI 1), .ref 24] w) ∧
  (∀ (scr : pX) (w : pW) (x1 : Int32) (x2 : Int32) (s0 : Int32), p_ev scr 133 42 [.ref 24, .int x1, .int x2, p_U, p_U, p_U] [.int s0, .ref 24] w = p_bnd scr 133 42 45 [.ref 24, .int x1, .int x2, p_U, p_U, p_U] [] (p_ev none 96 0 [.ref 24, .int s0] [] w)) ∧
  (∀ (scr : pX) (w : pW) (x1 : Int32) (x2 : Int32) (s0 : Int32), p_ev scr 133 45 [.ref 24, .int x1, .int x2, p_U, p_U, p_U] [.int s0] w = p_ev scr 133 46 [.ref 24, .int x1, .int x2, p_U, p_U, p_U] [.long s0.toInt64] w) ∧
  (∀ (scr : pX) (w : pW) (x1 : Int32) (x2 : Int32) (t0 : Int64), p_ev scr 133 46 [.ref 24, .int x1, .int x2, p_U, p_U, p_U] [.long t0] w = some (.inl (some (.long t0)), w, 0)) ∧
  (∀ (scr : pX) (w : pW) (x1 : Int32) (x2 : Int32), p_ev scr 133 47 [.ref 24, .int x1, .int x2, p_U, p_U, p_U] [] w = p_ev scr 133 48 [.ref 24, .int x1, .int x2, p_U, p_U, p_U] [.ref 24] w) ∧
  (∀ (scr : pX) (w : pW) (x1 : Int32) (x2 : Int32), p_ev scr 133 48 [.ref 24, .int x1, .int x2, p_U, p_U, p_U] [.ref 24] w = p_ev scr 133 51 [.ref 24, .int x1, .int x2, p_U, p_U, p_U] [.ref 25] w) ∧
  (∀ (scr : pX) (w : pW) (x1 : Int32) (x2 : Int32), p_ev scr 133 51 [.ref 24, .int x1, .int x2, p_U, p_U, p_U] [.ref 25] w = p_ev scr 133 52 [.ref 24, .int x1, .int x2, p_U, p_U, p_U] [.int x1, .ref 25] w) ∧
  (∀ (scr : pX) (w : pW) (x1 : Int32) (x2 : Int32) (s0 : Int32), p_out s0 16 = false → p_ev scr 133 52 [.ref 24, .int x1, .int x2, p_U, p_U, p_U] [.int s0, .ref 25] w = p_ev scr 133 53 [.ref 24, .int x1, .int x2, p_U, p_U, p_U] [.int (w.2.2 25 s0.toNatClampNeg)] w) ∧
  (∀ (scr : pX) (w : pW) (x1 : Int32) (x2 : Int32) (s0 : Int32), p_ev scr 133 53 [.ref 24, .int x1, .int x2, p_U, p_U, p_U] [.int s0] w = p_ev scr 133 54 [.ref 24, .int x1, .int x2, p_U, p_U, p_U] [.int (nI 1), .int s0] w) ∧
  (∀ (scr : pX) (w : pW) (x1 : Int32) (x2 : Int32) (s0 : Int32) (s1 : Int32), p_ev scr 133 54 [.ref 24, .int x1, .int x2, p_U, p_U, p_U] [.int s0, .int s1] w = if ¬ s1 = s0 then p_ev scr 133 65 [.ref 24, .int x1, .int x2, p_U, p_U, p_U] [] w else p_ev scr 133 57 [.ref 24, .int x1, .int x2, p_U, p_U, p_U] [] w) ∧
  (∀ (scr : pX) (w : pW) (x1 : Int32) (x2 : Int32), p_ev scr 133 57 [.ref 24, .int x1, .int x2, p_U, p_U, p_U] [] w = p_ev scr 133 58 [.ref 24, .int x1, .int x2, p_U, p_U, p_U] [.ref 24] w) ∧
  (∀ (scr : pX) (w : pW) (x1 : Int32) (x2 : Int32), p_ev scr 133 58 [.ref 24, .int x1, .int x2, p_U, p_U, p_U] [.ref 24] w = p_ev scr 133 61 [.ref 24, .int x1, .int x2, p_U, p_U, p_U] [.int (w.1 24 3)] w) ∧
  (∀ (scr : pX) (w : pW) (x1 : Int32) (x2 : Int32) (s0 : Int32), p_ev scr 133 61 [.ref 24, .int x1, .int x2, p_U, p_U, p_U] [.int s0] w = p_ev scr 133 62 [.ref 24, .int x1, .int x2, p_U, p_U, p_U] [.int (nI 2), .int s0] w) ∧
  (∀ (scr : pX) (w : pW) (x1 : Int32) (x2 : Int32) (s0 : Int32) (s1 : Int32), p_ev scr 133 62 [.ref 24, .int x1, .int x2, p_U, p_U, p_U] [.int s0, .int s1] w = if ¬ s1 = s0 then p_ev scr 133 72 [.ref 24, .int x1, .int x2, p_U, p_U, p_U] [] w else p_ev scr 133 65 [.ref 24, .int x1, .int x2, p_U, p_U, p_U] [] w) ∧
  (∀ (scr : pX) (w : pW) (x1 : Int32) (x2 : Int32), p_ev scr 133 65 [.ref 24, .int x1, .int x2, p_U, p_U, p_U] [] w = p_ev scr 133 66 [.ref 24, .int x1, .int x2, p_U, p_U, p_U] [.ref 24] w) ∧
  (∀ (scr : pX) (w : pW) (x1 : Int32) (x2 : Int32), p_ev scr 133 66 [.ref 24, .int x1, .int x2, p_U, p_U, p_U] [.ref 24] w = p_ev scr 133 67 [.ref 24, .int x1, .int x2, p_U, p_U, p_U] [.int (nI 2), .ref 24] w) ∧
  (∀ (scr : pX) (w : pW) (x1 : Int32) (x2 : Int32) (s0 : Int32), p_ev scr 133 67 [.ref 24, .int x1, .int x2, p_U, p_U, p_U] [.int s0, .ref 24] w = p_bnd scr 133 67 70 [.ref 24, .int x1, .int x2, p_U, p_U, p_U] [] (p_ev none 96 0 [.ref 24, .int s0] [] w)) ∧
  (∀ (scr : pX) (w : pW) (x1 : Int32) (x2 : Int32) (s0 : Int32), p_ev scr 133 70 [.ref 24, .int x1, .int x2, p_U, p_U, p_U] [.int s0] w = p_ev scr 133 71 [.ref 24, .int x1, .int x2, p_U, p_U, p_U] [.long s0.toInt64] w) ∧
  (∀ (scr : pX) (w : pW) (x1 : Int32) (x2 : Int32) (t0 : Int64), p_ev scr 133 71 [.ref 24, .int x1, .int x2, p_U, p_U, p_U] [.long t0] w = some (.inl (some (.long t0)), w, 0)) ∧
  (∀ (scr : pX) (w : pW) (x1 : Int32) (x2 : Int32), p_ev scr 133 72 [.ref 24, .int x1, .int x2, p_U, p_U, p_U] [] w = p_ev scr 133 74 [.ref 24, .int x1, .int x2, p_U, p_U, p_U] [.int (nI 32)] w) ∧
  (∀ (scr : pX) (w : pW) (x1 : Int32) (x2 : Int32) (s0 : Int32), p_ev scr 133 74 [.ref 24, .int x1, .int x2, p_U, p_U, p_U] [.int s0] w = p_ev scr 133 75 [.ref 24, .int x1, .int x2, p_U, p_U, p_U] [.int x1, .int s0] w) ∧
  (∀ (scr : pX) (w : pW) (x1 : Int32) (x2 : Int32) (s0 : Int32) (s1 : Int32), p_ev scr 133 75 [.ref 24, .int x1, .int x2, p_U, p_U, p_U] [.int s0, .int s1] w = p_ev scr 133 76 [.ref 24, .int x1, .int x2, p_U, p_U, p_U] [.int (s1 * s0)] w) ∧
  (∀ (scr : pX) (w : pW) (x1 : Int32) (x2 : Int32) (s0 : Int32), p_ev scr 133 76 [.ref 24, .int x1, .int x2, p_U, p_U, p_U] [.int s0] w = p_ev scr 133 77 [.ref 24, .int x1, .int x2, p_U, p_U, p_U] [.int (nI 2), .int s0] w) ∧
  (∀ (scr : pX) (w : pW) (x1 : Int32) (x2 : Int32) (s0 : Int32) (s1 : Int32), p_ev scr 133 77 [.ref 24, .int x1, .int x2, p_U, p_U, p_U] [.int s0, .int s1] w = p_ev scr 133 78 [.ref 24, .int x1, .int x2, p_U, p_U, p_U] [.int x2, .int s0, .int s1] w) ∧
  (∀ (scr : pX) (w : pW) (x1 : Int32) (x2 : Int32) (s0 : Int32) (s1 : Int32) (s2 : Int32), p_ev scr 133 78 [.ref 24, .int x1, .int x2, p_U, p_U, p_U] [.int s0, .int s1, .int s2] w = p_ev scr 133 79 [.ref 24, .int x1, .int x2, p_U, p_U, p_U] [.int (s1 * s0), .int s2] w) ∧
  (∀ (scr : pX) (w : pW) (x1 : Int32) (x2 : Int32) (s0 : Int32) (s1 : Int32), p_ev scr 133 79 [.ref 24, .int x1, .int x2, p_U, p_U, p_U] [.int s0, .int s1] w = p_ev scr 133 80 [.ref 24, .int x1, .int x2, p_U, p_U, p_U] [.int (s1 + s0)] w) ∧
  (∀ (scr : pX) (w : pW) (x1 : Int32) (x2 : Int32) (s0 : Int32), p_ev scr 133 80 [.ref 24, .int x1, .int x2, p_U, p_U, p_U] [.int s0] w = p_ev scr 133 81 [.ref 24, .int x1, .int x2, .int s0, p_U, p_U] [] w) ∧
  (∀ (scr : pX) (w : pW) (x1 : Int32) (x2 : Int32) (x3 : Int32), p_ev scr 133 81 [.ref 24, .int x1, .int x2, .int x3, p_U, p_U] [] w = p_ev scr 133 82 [.ref 24, .int x1, .int x2, .int x3, p_U, p_U] [.int (nI 2)] w) ∧
  (∀ (scr : pX) (w : pW) (x1 : Int32) (x2 : Int32) (x3 : Int32) (s0 : Int32), p_ev scr 133 82 [.ref 24, .int x1, .int x2, .int x3, p_U, p_U] [.int s0] w = p_ev scr 133 83 [.ref 24, .int x1, .int x2, .int x3, p_U, p_U] [.int x2, .int s0] w) ∧
  (∀ (scr : pX) (w : pW) (x1 : Int32) (x2 : Int32) (x3 : Int32) (s0 : Int32) (s1 : Int32), p_ev scr 133 83 [.ref 24, .int x1, .int x2, .int x3, p_U, p_U] [.int s0, .int s1] w = p_ev scr 133 84 [.ref 24, .int x1, .int x2, .int x3, p_U, p_U] [.int (s1 * s0)] w) ∧
  (∀ (scr : pX) (w : pW) (x1 : Int32) (x2 : Int32) (x3 : Int32) (s0 : Int32), p_ev scr 133 84 [.ref 24, .int x1, .int x2, .int x3, p_U, p_U] [.int s0] w = p_ev scr 133 85 [.ref 24, .int x1, .int x2, .int x3, p_U, p_U] [.int (nI 2), .int s0] w) ∧
  (∀ (scr : pX) (w : pW) (x1 : Int32) (x2 : Int32) (x3 : Int32) (s0 : Int32) (s1 : Int32), p_ev scr 133 85 [.ref 24, .int x1, .int x2, .int x3, p_U, p_U] [.int s0, .int s1] w = p_ev scr 133 86 [.ref 24, .int x1, .int x2, .int x3, p_U, p_U] [.int (s1 + s0)] w) ∧
  (∀ (scr : pX) (w : pW) (x1 : Int32) (x2 : Int32) (x3 : Int32) (s0 : Int32), p_ev scr 133 86 [.ref 24, .int x1, .int x2, .int x3, p_U, p_U] [.int s0] w = p_ev scr 133 87 [.ref 24, .int x1, .int x2, .int x3, p_U, p_U] [.ref 24, .int s0] w) ∧
  (∀ (scr : pX) (w : pW) (x1 : Int32) (x2 : Int32) (x3 : Int32) (s1 : Int32), p_ev scr 133 87 [.ref 24, .int x1, .int x2, .int x3, p_U, p_U] [.ref 24, .int s1] w = p_ev scr 133 88 [.ref 24, .int x1, .int x2, .int x3, p_U, p_U] [.int x1, .ref 24, .int s1] w) ∧
  (∀ (scr : pX) (w : pW) (x1 : Int32) (x2 : Int32) (x3 : Int32) (s0 : Int32) (s2 : Int32), p_ev scr 133 88 [.ref 24, .int x1, .int x2, .int x3, p_U, p_U] [.int s0, .ref 24, .int s2] w = p_bnd scr 133 88 91 [.ref 24, .int x1, .int x2, .int x3, p_U, p_U] [.int s2] (p_ev none 101 0 [.ref 24, .int s0, p_U, p_U] [] w)) ∧
  (∀ (scr : pX) (w : pW) (x1 : Int32) (x2 : Int32) (x3 : Int32) (s0 : Int32) (s1 : Int32), p_ev scr 133 91 [.ref 24, .int x1, .int x2, .int x3, p_U, p_U] [.int s0, .int s1] w = if s0 ≤ s1 then p_ev scr 133 105 [.ref 24, .int x1, .int x2, .int x3, p_U, p_U] [] w else p_ev scr 133 94 [.ref 24, .int x1, .int x2, .int x3, p_U, p_U] [] w) ∧
  (∀ (scr : pX) (w : pW) (x1 : Int32) (x2 : Int32) (x3 : Int32), p_ev scr 133 94 [.ref 24, .int x1, .int x2, .int x3, p_U, p_U] [] w = p_ev scr 133 95 [.ref 24, .int x1, .int x2, .int x3, p_U, p_U] [.ref 24] w) ∧
  (∀ (scr : pX) (w : pW) (x1 : Int32) (x2 : Int32) (x3 : Int32), p_ev scr 133 95 [.ref 24, .int x1, .int x2, .int x3, p_U, p_U] [.ref 24] w = p_ev scr 133 98 [.ref 24, .int x1, .int x2, .int x3, p_U, p_U] [.ref 26] w) ∧
  (∀ (scr : pX) (w : pW) (x1 : Int32) (x2 : Int32) (x3 : Int32), p_ev scr 133 98 [.ref 24, .int x1, .int x2, .int x3, p_U, p_U] [.ref 26] w = p_ev scr 133 99 [.ref 24, .int x1, .int x2, .int x3, p_U, p_U] [.int x3, .ref 26] w) ∧
  (∀ (scr : pX) (w : pW) (x1 : Int32) (x2 : Int32) (x3 : Int32) (s0 : Int32), p_ev scr 133 99 [.ref 24, .int x1, .int x2, .int x3, p_U, p_U] [.int s0, .ref 26] w = p_ev scr 133 100 [.ref 24, .int x1, .int x2, .int x3, p_U, p_U] [.int (nI 2), .int s0, .ref 26] w) ∧
  (∀ (scr : pX) (w : pW) (x1 : Int32) (x2 : Int32) (x3 : Int32) (s0 : Int32) (s1 : Int32), p_ev scr 133 100 [.ref 24, .int x1, .int x2, .int x3, p_U, p_U] [.int s0, .int s1, .ref 26] w = p_ev scr 133 101 [.ref 24, .int x1, .int x2, .int x3, p_U, p_U] [.int (s1 + s0), .ref 26] w) ∧
  (∀ (scr : pX) (w : pW) (x1 : Int32) (x2 : Int32) (x3 : Int32) (s0 : Int32), p_out s0 512 = false → p_ev scr 133 101 [.ref 24, .int x1, .int x2, .int x3, p_U, p_U] [.int s0, .ref 26] w = p_ev scr 133 102 [.ref 24, .int x1, .int x2, .int x3, p_U, p_U] [.long (w.2.1 26 s0.toNatClampNeg)] w) ∧
  (∀ (scr : pX) (w : pW) (x1 : Int32) (x2 : Int32) (x3 : Int32) (t0 : Int64), p_ev scr 133 102 [.ref 24, .int x1, .int x2, .int x3, p_U, p_U] [.long t0] w = p_ev scr 133 111 [.ref 24, .int x1, .int x2, .int x3, p_U, p_U] [.long t0] w) ∧
  (∀ (scr : pX) (w : pW) (x1 : Int32) (x2 : Int32) (x3 : Int32), p_ev scr 133 105 [.ref 24, .int x1, .int x2, .int x3, p_U, p_U] [] w = p_ev scr 133 106 [.ref 24, .int x1, .int x2, .int x3, p_U, p_U] [.ref 24] w) ∧
  (∀ (scr : pX) (w : pW) (x1 : Int32) (x2 : Int32) (x3 : Int32), p_ev scr 133 106 [.ref 24, .int x1, .int x2, .int x3, p_U, p_U] [.ref 24] w = p_ev scr 133 109 [.ref 24, .int x1, .int x2, .int x3, p_U, p_U] [.ref 26] w) ∧
  (∀ (scr : pX) (w : pW) (x1 : Int32) (x2 : Int32) (x3 : Int32), p_ev scr 133 109 [.ref 24, .int x1, .int x2, .int x3, p_U, p_U] [.ref 26] w = p_ev scr 133 110 [.ref 24, .int x1, .int x2, .int x3, p_U, p_U] [.int x3, .ref 26] w) ∧
  (∀ (scr : pX) (w : pW) (x1 : Int32) (x2 : Int32) (x3 : Int32) (s0 : Int32), p_out s0 512 = false → p_ev scr 133 110 [.ref 24, .int x1, .int x2, .int x3, p_U, p_U] [.int s0, .ref 26] w = p_ev scr 133 111 [.ref 24, .int x1, .int x2, .int x3, p_U, p_U] [.long (w.2.1 26 s0.toNatClampNeg)] w) ∧
  (∀ (scr : pX) (w : pW) (x1 : Int32) (x2 : Int32) (x3 : Int32) (t0 : Int64), p_ev scr 133 111 [.ref 24, .int x1, .int x2, .int x3, p_U, p_U] [.long t0] w = p_ev scr 133 113 [.ref 24, .int x1, .int x2, .int x3, .long t0, p_U] [] w) ∧
  (∀ (scr : pX) (w : pW) (x1 : Int32) (x2 : Int32) (x3 : Int32) (y4 : Int64), p_ev scr 133 113 [.ref 24, .int x1, .int x2, .int x3, .long y4, p_U] [] w = p_ev scr 133 114 [.ref 24, .int x1, .int x2, .int x3, .long y4, p_U] [.ref 24] w) ∧
  (∀ (scr : pX) (w : pW) (x1 : Int32) (x2 : Int32) (x3 : Int32) (y4 : Int64), p_ev scr 133 114 [.ref 24, .int x1, .int x2, .int x3, .long y4, p_U] [.ref 24] w = p_ev scr 133 117 [.ref 24, .int x1, .int x2, .int x3, .long y4, p_U] [.int (w.1 24 3)] w) ∧
  (∀ (scr : pX) (w : pW) (x1 : Int32) (x2 : Int32) (x3 : Int32) (y4 : Int64) (s0 : Int32), p_ev scr 133 117 [.ref 24, .int x1, .int x2, .int x3, .long y4, p_U] [.int s0] w = if ¬ s0 = nI 0 then p_ev scr 133 138 [.ref 24, .int x1, .int x2, .int x3, .long y4, p_U] [] w else p_ev scr 133 120 [.ref 24, .int x1, .int x2, .int x3, .long y4, p_U] [] w) ∧
  (∀ (scr : pX) (w : pW) (x1 : Int32) (x2 : Int32) (x3 : Int32) (y4 : Int64), p_ev scr 133 120 [.ref 24, .int x1, .int x2, .int x3, .long y4, p_U] [] w = p_ev scr 133 121 [.ref 24, .int x1, .int x2, .int x3, .long y4, p_U] [.ref 24] w) ∧
  (∀ (scr : pX) (w : pW) (x1 : Int32) (x2 : Int32) (x3 : Int32) (y4 : Int64), p_ev scr 133 121 [.ref 24, .int x1, .int x2, .int x3, .long y4, p_U] [.ref 24] w = p_ev scr 133 124 [.ref 24, .int x1, .int x2, .int x3, .long y4, p_U] [.ref 26] w) ∧
  (∀ (scr : pX) (w : pW) (x1 : Int32) (x2 : Int32) (x3 : Int32) (y4 : Int64), p_ev scr 133 124 [.ref 24, .int x1, .int x2, .int x3, .long y4, p_U] [.ref 26] w = p_ev scr 133 125 [.ref 24, .int x1, .int x2, .int x3, .long y4, p_U] [.int x3, .ref 26] w) ∧
  (∀ (scr : pX) (w : pW) (x1 : Int32) (x2 : Int32) (x3 : Int32) (y4 : Int64) (s0 : Int32), p_ev scr 133 125 [.ref 24, .int x1, .int x2, .int x3, .long y4, p_U] [.int s0, .ref 26] w = p_ev scr 133 126 [.ref 24, .int x1, .int x2, .int x3, .long y4, p_U] [.int (nI 1), .int s0, .ref 26] w) ∧
  (∀ (scr : pX) (w : pW) (x1 : Int32) (x2 : Int32) (x3 : Int32) (y4 : Int64) (s0 : Int32) (s1 : Int32), p_ev scr 133 126 [.ref 24, .int x1, .int x2, .int x3, .long y4, p_U] [.int s0, .int s1, .ref 26] w = p_ev scr 133 127 [.ref 24, .int x1, .int x2, .int x3, .long y4, p_U] [.int (s1 + s0), .ref 26] w) ∧
  (∀ (scr : pX) (w : pW) (x1 : Int32) (x2 : Int32) (x3 : Int32) (y4 : Int64) (s0 : Int32), p_out s0 512 = false → p_ev scr 133 127 [.ref 24, .int x1, .int x2, .int x3, .long y4, p_U] [.int s0, .ref 26] w = p_ev scr 133 128 [.ref 24, .int x1, .int x2, .int x3, .long y4, p_U] [.long (w.2.1 26 s0.toNatClampNeg)] w) ∧
  (∀ (scr : pX) (w : pW) (x1 : Int32) (x2 : Int32) (x3 : Int32) (y4 : Int64) (t0 : Int64), p_ev scr 133 128 [.ref 24, .int x1, .int x2, .int x3, .long y4, p_U] [.long t0] w = p_ev scr 133 129 [.ref 24, .int x1, .int x2, .int x3, .long y4, p_U] [.ref 24, .long t0] w) ∧
  (∀ (scr : pX) (w : pW) (x1 : Int32) (x2 : Int32) (x3 : Int32) (y4 : Int64) (t1 : Int64), p_ev scr 133 129 [.ref 24, .int x1, .int x2, .int x3, .long y4, p_U] [.ref 24, .long t1] w = p_ev scr 133 132 [.ref 24, .int x1, .int x2, .int x3, .long y4, p_U] [.ref 26, .long t1] w) ∧
  (∀ (scr : pX) (w : pW) (x1 : Int32) (x2 : Int32) (x3 : Int32) (y4 : Int64) (t1 : Int64), p_ev scr 133 132 [.ref 24, .int x1, .int x2, .int x3, .long y4, p_U] [.ref 26, .long t1] w = p_ev scr 133 133 [.ref 24, .int x1, .int x2, .int x3, .long y4, p_U] [.int x3, .ref 26, .long t1] w) ∧
  (∀ (scr : pX) (w : pW) (x1 : Int32) (x2 : Int32) (x3 : Int32) (y4 : Int64) (s0 : Int32) (t2 : Int64), p_out s0 512 = false → p_ev scr 133 133 [.ref 24, .int x1, .int x2, .int x3, .long y4, p_U] [.int s0, .ref 26, .long t2] w = p_ev scr 133 134 [.ref 24, .int x1, .int x2, .int x3, .long y4, p_U] [.long (w.2.1 26 s0.toNatClampNeg), .long t2] w) ∧
  (∀ (scr : pX) (w : pW) (x1 : Int32) (x2 : Int32) (x3 : Int32) (y4 : Int64) (t0 : Int64) (t1 : Int64), p_ev scr 133 134 [.ref 24, .int x1, .int x2, .int x3, .long y4, p_U] [.long t0, .long t1] w = p_ev scr 133 135 [.ref 24, .int x1, .int x2, .int x3, .long y4, p_U] [.long (t1 - t0)] w) ∧
  (∀ (scr : pX) (w : pW) (x1 : Int32) (x2 : Int32) (x3 : Int32) (y4 : Int64) (t0 : Int64), p_ev scr 133 135 [.ref 24, .int x1, .int x2, .int x3, .long y4, p_U] [.long t0] w = p_ev scr 133 167 [.ref 24, .int x1, .int x2, .int x3, .long y4, p_U] [.long t0] w) ∧
  (∀ (scr : pX) (w : pW) (x1 : Int32) (x2 : Int32) (x3 : Int32) (y4 : Int64), p_ev scr 133 138 [.ref 24, .int x1, .int x2, .int x3, .long y4, p_U] [] w = p_ev scr 133 139 [.ref 24, .int x1, .int x2, .int x3, .long y4, p_U] [.ref 24] w) ∧
  (∀ (scr : pX) (w : pW) (x1 : Int32) (x2 : Int32) (x3 : Int32) (y4 : Int64), p_ev scr 133 139 [.ref 24, .int x1, .int x2, .int x3, .long y4, p_U] [.ref 24] w = p_ev scr 133 142 [.ref 24, .int x1, .int x2, .int x3, .long y4, p_U] [.ref 26] w) ∧
  (∀ (scr : pX) (w : pW) (x1 : Int32) (x2 : Int32) (x3 : Int32) (y4 : Int64), p_ev scr 133 142 [.ref 24, .int x1, .int x2, .int x3, .long y4, p_U] [.ref 26] w = p_ev scr 133 143 [.ref 24, .int x1, .int x2, .int x3, .long y4, p_U] [.int x3, .ref 26] w) ∧
  (∀ (scr : pX) (w : pW) (x1 : Int32) (x2 : Int32) (x3 : Int32) (y4 : Int64) (s0 : Int32), p_out s0 512 = false → p_ev scr 133 143 [.ref 24, .int x1, .int x2, .int x3, .long y4, p_U] [.int s0, .ref 26] w = p_ev scr 133 144 [.ref 24, .int x1, .int x2, .int x3, .long y4, p_U] [.long (w.2.1 26 s0.toNatClampNeg)] w) ∧
  (∀ (scr : pX) (w : pW) (x1 : Int32) (x2 : Int32) (x3 : Int32) (y4 : Int64) (t0 : Int64), p_ev scr 133 144 [.ref 24, .int x1, .int x2, .int x3, .long y4, p_U] [.long t0] w = p_ev scr 133 146 [.ref 24, .int x1, .int x2, .int x3, .long y4, p_U] [.long y4, .long t0] w) ∧
  (∀ (scr : pX) (w : pW) (x1 : Int32) (x2 : Int32) (x3 : Int32) (y4 : Int64) (t0 : Int64) (t1 : Int64), p_ev scr 133 146 [.ref 24, .int x1, .int x2, .int x3, .long y4, p_U] [.long t0, .long t1] w = p_ev scr 133 147 [.ref 24, .int x1, .int x2, .int x3, .long y4, p_U] [.long (t1 + t0)] w) ∧
  (∀ (scr : pX) (w : pW) (x1 : Int32) (x2 : Int32) (x3 : Int32) (y4 : Int64) (t0 : Int64), p_ev scr 133 147 [.ref 24, .int x1, .int x2, .int x3, .long y4, p_U] [.long t0] w = p_ev scr 133 150 [.ref 24, .int x1, .int x2, .int x3, .long y4, p_U] [.long (lN 2), .long t0] w) ∧
  (∀ (scr : pX) (w : pW) (x1 : Int32) (x2 : Int32) (x3 : Int32) (y4 : Int64) (t0 : Int64) (t1 : Int64), p_ev scr 133 150 [.ref 24, .int x1, .int x2, .int x3, .long y4, p_U] [.long t0, .long t1] w = p_ev scr 133 151 [.ref 24, .int x1, .int x2, .int x3, .long y4, p_U] [.ref 24, .long t0, .long t1] w) ∧
  (∀ (scr : pX) (w : pW) (x1 : Int32) (x2 : Int32) (x3 : Int32) (y4 : Int64) (t1 : Int64) (t2 : Int64), p_ev scr 133 151 [.ref 24, .int x1, .int x2, .int x3, .long y4, p_U] [.ref 24, .long t1, .long t2] w = p_ev scr 133 154 [.ref 24, .int x1, .int x2, .int x3, .long y4, p_U] [.ref 26, .long t1, .long t2] w) ∧
  (∀ (scr : pX) (w : pW) (x1 : Int32) (x2 : Int32) (x3 : Int32) (y4 : Int64) (t1 : Int64) (t2 : Int64), p_ev scr 133 154 [.ref 24, .int x1, .int x2, .int x3, .long y4, p_U] [.ref 26, .long t1, .long t2] w = p_ev scr 133 155 [.ref 24, .int x1, .int x2, .int x3, .long y4, p_U] [.int x3, .ref 26, .long t1, .long t2] w) ∧
  (∀ (scr : pX) (w : pW) (x1 : Int32) (x2 : Int32) (x3 : Int32) (y4 : Int64) (s0 : Int32) (t2 : Int64) (t3 : Int64), p_ev scr 133 155 [.ref 24, .int x1, .int x2, .int x3, .long y4, p_U] [.int s0, .ref 26, .long t2, .long t3] w = p_ev scr 133 156 [.ref 24, .int x1, .int x2, .int x3, .long y4, p_U] [.int (nI 1), .int s0, .ref 26, .long t2, .long t3] w) ∧
  (∀ (scr : pX) (w : pW) (x1 : Int32) (x2 : Int32) (x3 : Int32) (y4 : Int64) (s0 : Int32) (s1 : Int32) (t3 : Int64) (t4 : Int64), p_ev scr 133 156 [.ref 24, .int x1, .int x2, .int x3, .long y4, p_U] [.int s0, .int s1, .ref 26, .long t3, .long t4] w = p_ev scr 133 157 [.ref 24, .int x1, .int x2, .int x3, .long y4, p_U] [.int (s1 + s0), .ref 26, .long t3, .long t4] w) ∧
  (∀ (scr : pX) (w : pW) (x1 : Int32) (x2 : Int32) (x3 : Int32) (y4 : Int64) (s0 : Int32) (t2 : Int64) (t3 : Int64), p_out s0 512 = false → p_ev scr 133 157 [.ref 24, .int x1, .int x2, .int x3, .long y4, p_U] [.int s0, .ref 26, .long t2, .long t3] w = p_ev scr 133 158 [.ref 24, .int x1, .int x2, .int x3, .long y4, p_U] [.long (w.2.1 26 s0.toNatClampNeg), .long t2, .long t3] w) ∧
  (∀ (scr : pX) (w : pW) (x1 : Int32) (x2 : Int32) (x3 : Int32) (y4 : Int64) (t0 : Int64) (t1 : Int64) (t2 : Int64), p_ev scr 133 158 [.ref 24, .int x1, .int x2, .int x3, .long y4, p_U] [.long t0, .long t1, .long t2] w = p_ev scr 133 159 [.ref 24, .int x1, .int x2, .int x3, .long y4, p_U] [.long (t1 * t0), .long t2] w) ∧
  (∀ (scr : pX) (w : pW) (x1 : Int32) (x2 : Int32) (x3 : Int32) (y4 : Int64) (t0 : Int64) (t1 : Int64), p_ev scr 133 159 [.ref 24, .int x1, .int x2, .int x3, .long y4, p_U] [.long t0, .long t1] w = p_ev scr 133 160 [.ref 24, .int x1, .int x2, .int x3, .long y4, p_U] [.long (t1 - t0)] w) ∧
  (∀ (scr : pX) (w : pW) (x1 : Int32) (x2 : Int32) (x3 : Int32) (y4 : Int64) (t0 : Int64), p_ev scr 133 160 [.ref 24, .int x1, .int x2, .int x3, .long y4, p_U] [.long t0] w = p_ev scr 133 163 [.ref 24, .int x1, .int x2, .int x3, .long y4, p_U] [.long (lN 2), .long t0] w) ∧
  (∀ (scr : pX) (w : pW) (x1 : Int32) (x2 : Int32) (x3 : Int32) (y4 : Int64) (t0 : Int64) (t1 : Int64), p_ev scr 133 163 [.ref 24, .int x1, .int x2, .int x3, .long y4, p_U] [.long t0, .long t1] w = p_bnd scr 133 163 166 [.ref 24, .int x1, .int x2, .int x3, .long y4, p_U] [] (p_ev none 99 0 [.long t1, p_U, .long t0, p_U] [] w)) ∧
  (∀ (scr : pX) (w : pW) (x1 : Int32) (x2 : Int32) (x3 : Int32) (y4 : Int64) (t0 : Int64), p_ev scr 133 166 [.ref 24, .int x1, .int x2, .int x3, .long y4, p_U] [.long t0] w = p_ev scr 133 167 [.ref 24, .int x1, .int x2, .int x3, .long y4, p_U] [.long (-t0)] w) ∧
  (∀ (scr : pX) (w : pW) (x1 : Int32) (x2 : Int32) (x3 : Int32) (y4 : Int64) (t0 : Int64), p_ev scr 133 167 [.ref 24, .int x1, .int x2, .int x3, .long y4, p_U] [.long t0] w = some (.inl (some (.long t0)), w, 0)) :=
  ⟨fun _ _ _ _ => p_r (by decide +kernel : p_at 133 0 = some (.aload_n 0)) rfl,
  fun _ _ _ _ => p_r (by decide +kernel : p_at 133 1 = some (.iconst 0)) rfl,
  fun _ _ _ _ _ => p_rpf (by decide +kernel : p_at 133 2 = some (.putfield 63)) (by decide +kernel : p_fld (p_own 133) 63 = some (5, 4)) (rfl : p_ob 24 = some (.inr (5, [some 25, some 26, none, none, none, some 27, some 28, some 29, some 30, some 31, some 32, some 33, some 34, some 35, some 36, some 37, some 38, some 39, none, none, some 40]))) rfl,
  fun _ _ _ _ => p_r (by decide +kernel : p_at 133 5 = some (.aload_n 0)) rfl,
  fun _ _ _ _ => p_r (by decide +kernel : p_at 133 6 = some (.iload_n 1)) rfl,
  fun _ _ _ _ _ => p_rcv (nl := 2) (by decide +kernel : p_at 133 7 = some (.invokevirtual 135)) (by decide +kernel : p_inv (p_own 133) 135 = some (1, 102, 2)) (by decide +kernel) (rfl : p_ob 24 = some (.inr (5, [some 25, some 26, none, none, none, some 27, some 28, some 29, some 30, some 31, some 32, some 33, some 34, some 35, some 36, some 37, some 38, some 39, none, none, some 40]))) rfl rfl (Nat.le_of_ble_eq_true rfl) (Nat.le_of_ble_eq_true rfl) (Nat.le_of_ble_eq_true rfl) rfl,
  fun _ _ _ _ _ => p_rb1 (c := fun x => decide (x = 0)) (off := 30) (by decide +kernel : p_at 133 10 = some (.ifCond .eq 30)) (by decide +kernel) rfl rfl rfl,
  fun _ _ _ _ => p_r (by decide +kernel : p_at 133 13 = some (.aload_n 0)) rfl,
  fun _ _ _ _ => p_rgf (f := some 25) (by decide +kernel : p_at 133 14 = some (.getfield 7)) (by decide +kernel : p_fld (p_own 133) 7 = some (5, 0)) (rfl : p_ob 24 = some (.inr (5, [some 25, some 26, none, none, none, some 27, some 28, some 29, some 30, some 31, some 32, some 33, some 34, some 35, some 36, some 37, some 38, some 39, none, none, some 40]))) rfl,
  fun _ _ _ _ => p_r (by decide +kernel : p_at 133 17 = some (.iload_n 1)) rfl,
  fun _ _ _ _ _ hp => p_riald (by decide +kernel : p_at 133 18 = some (.iaload)) (rfl : p_ob 25 = some (.inl (1, 16))) hp,
  fun _ _ _ _ _ => p_r (by decide +kernel : p_at 133 19 = some (.iconst 1)) rfl,
  fun _ _ _ _ _ _ => p_rb2 (c := fun x y => decide (¬ x = y)) (off := 27) (by decide +kernel : p_at 133 20 = some (.if_icmp .ne 27)) (by decide +kernel) rfl rfl rfl,
  fun _ _ _ _ => p_r (by decide +kernel : p_at 133 23 = some (.iload_n 2)) rfl,
  fun _ _ _ _ _ => p_r (by decide +kernel : p_at 133 24 = some (.iconst 0)) rfl,
  fun _ _ _ _ _ _ => p_r (by decide +kernel : p_at 133 25 = some (.aload_n 0)) rfl,
  fun _ _ _ _ _ _ => p_r (by decide +kernel : p_at 133 26 = some (.iload_n 1)) rfl,
  fun _ _ _ _ _ _ _ => p_rcv (nl := 4) (by decide +kernel : p_at 133 27 = some (.invokevirtual 113)) (by decide +kernel : p_inv (p_own 133) 113 = some (1, 101, 2)) (by decide +kernel) (rfl : p_ob 24 = some (.inr (5, [some 25, some 26, none, none, none, some 27, some 28, some 29, some 30, some 31, some 32, some 33, some 34, some 35, some 36, some 37, some 38, some 39, none, none, some 40]))) rfl rfl (Nat.le_of_ble_eq_true rfl) (Nat.le_of_ble_eq_true rfl) (Nat.le_of_ble_eq_true rfl) rfl,
  fun _ _ _ _ _ _ _ => p_r (by decide +kernel : p_at 133 30 = some (.iconst 2)) rfl,
  fun _ _ _ _ _ _ _ _ hp => p_ridiv (by decide +kernel : p_at 133 31 = some (.idiv)) hp,
  fun _ _ _ _ _ _ _ => p_r (by decide +kernel : p_at 133 32 = some (.iconst 1)) rfl,
  fun _ _ _ _ _ _ _ _ => p_r (by decide +kernel : p_at 133 33 = some (.isub)) rfl,
  fun _ _ _ _ _ _ _ => p_rcs (nl := 3) (by decide +kernel : p_at 133 34 = some (.invokestatic 72)) (by decide +kernel : p_inv (p_own 133) 72 = some (1, 97, 3)) (by decide +kernel) rfl rfl (Nat.le_of_ble_eq_true rfl) (Nat.le_of_ble_eq_true rfl) (Nat.le_of_ble_eq_true rfl) rfl,
  fun _ _ _ _ _ => p_rb1 (c := fun x => decide (¬ x = 0)) (off := 10) (by decide +kernel : p_at 133 37 = some (.ifCond .ne 10)) (by decide +kernel) rfl rfl rfl,
  fun _ _ _ _ => p_r (by decide +kernel : p_at 133 40 = some (.aload_n 0)) rfl,
  fun _ _ _ _ => p_r (by decide +kernel : p_at 133 41 = some (.iconst 1)) rfl,
  fun _ _ _ _ _ => p_rcv (nl := 2) (by decide +kernel : p_at 133 42 = some (.invokevirtual 76)) (by decide +kernel : p_inv (p_own 133) 76 = some (1, 96, 2)) (by decide +kernel) (rfl : p_ob 24 = some (.inr (5, [some 25, some 26, none, none, none, some 27, some 28, some 29, some 30, some 31, some 32, some 33, some 34, some 35, some 36, some 37, some 38, some 39, none, none, some 40]))) rfl rfl (Nat.le_of_ble_eq_true rfl) (Nat.le_of_ble_eq_true rfl) (Nat.le_of_ble_eq_true rfl) rfl,
  fun _ _ _ _ _ => p_r (by decide +kernel : p_at 133 45 = some (.i2l)) rfl,
  fun _ _ _ _ _ => p_rlret (by decide +kernel : p_at 133 46 = some (.lreturn)) (by decide +kernel),
  fun _ _ _ _ => p_r (by decide +kernel : p_at 133 47 = some (.aload_n 0)) rfl,
  fun _ _ _ _ => p_rgf (f := some 25) (by decide +kernel : p_at 133 48 = some (.getfield 7)) (by decide +kernel : p_fld (p_own 133) 7 = some (5, 0)) (rfl : p_ob 24 = some (.inr (5, [some 25, some 26, none, none, none, some 27, some 28, some 29, some 30, some 31, some 32, some 33, some 34, some 35, some 36, some 37, some 38, some 39, none, none, some 40]))) rfl,
  fun _ _ _ _ => p_r (by decide +kernel : p_at 133 51 = some (.iload_n 1)) rfl,
  fun _ _ _ _ _ hp => p_riald (by decide +kernel : p_at 133 52 = some (.iaload)) (rfl : p_ob 25 = some (.inl (1, 16))) hp,
  fun _ _ _ _ _ => p_r (by decide +kernel : p_at 133 53 = some (.iconst 1)) rfl,
  fun _ _ _ _ _ _ => p_rb2 (c := fun x y => decide (¬ x = y)) (off := 11) (by decide +kernel : p_at 133 54 = some (.if_icmp .ne 11)) (by decide +kernel) rfl rfl rfl,
  fun _ _ _ _ => p_r (by decide +kernel : p_at 133 57 = some (.aload_n 0)) rfl,
  fun _ _ _ _ => p_rgf (f := none) (by decide +kernel : p_at 133 58 = some (.getfield 80)) (by decide +kernel : p_fld (p_own 133) 80 = some (5, 3)) (rfl : p_ob 24 = some (.inr (5, [some 25, some 26, none, none, none, some 27, some 28, some 29, some 30, some 31, some 32, some 33, some 34, some 35, some 36, some 37, some 38, some 39, none, none, some 40]))) rfl,
  fun _ _ _ _ _ => p_r (by decide +kernel : p_at 133 61 = some (.iconst 2)) rfl,
  fun _ _ _ _ _ _ => p_rb2 (c := fun x y => decide (¬ x = y)) (off := 10) (by decide +kernel : p_at 133 62 = some (.if_icmp .ne 10)) (by decide +kernel) rfl rfl rfl,
  fun _ _ _ _ => p_r (by decide +kernel : p_at 133 65 = some (.aload_n 0)) rfl,
  fun _ _ _ _ => p_r (by decide +kernel : p_at 133 66 = some (.iconst 2)) rfl,
  fun _ _ _ _ _ => p_rcv (nl := 2) (by decide +kernel : p_at 133 67 = some (.invokevirtual 76)) (by decide +kernel : p_inv (p_own 133) 76 = some (1, 96, 2)) (by decide +kernel) (rfl : p_ob 24 = some (.inr (5, [some 25, some 26, none, none, none, some 27, some 28, some 29, some 30, some 31, some 32, some 33, some 34, some 35, some 36, some 37, some 38, some 39, none, none, some 40]))) rfl rfl (Nat.le_of_ble_eq_true rfl) (Nat.le_of_ble_eq_true rfl) (Nat.le_of_ble_eq_true rfl) rfl,
  fun _ _ _ _ _ => p_r (by decide +kernel : p_at 133 70 = some (.i2l)) rfl,
  fun _ _ _ _ _ => p_rlret (by decide +kernel : p_at 133 71 = some (.lreturn)) (by decide +kernel),
  fun _ _ _ _ => p_r (by decide +kernel : p_at 133 72 = some (.bipush 32)) rfl,
  fun _ _ _ _ _ => p_r (by decide +kernel : p_at 133 74 = some (.iload_n 1)) rfl,
  fun _ _ _ _ _ _ => p_r (by decide +kernel : p_at 133 75 = some (.imul)) rfl,
  fun _ _ _ _ _ => p_r (by decide +kernel : p_at 133 76 = some (.iconst 2)) rfl,
  fun _ _ _ _ _ _ => p_r (by decide +kernel : p_at 133 77 = some (.iload_n 2)) rfl,
  fun _ _ _ _ _ _ _ => p_r (by decide +kernel : p_at 133 78 = some (.imul)) rfl,
  fun _ _ _ _ _ _ => p_r (by decide +kernel : p_at 133 79 = some (.iadd)) rfl,
  fun _ _ _ _ _ => p_r (by decide +kernel : p_at 133 80 = some (.istore_n 3)) rfl,
  fun _ _ _ _ _ => p_r (by decide +kernel : p_at 133 81 = some (.iconst 2)) rfl,
  fun _ _ _ _ _ _ => p_r (by decide +kernel : p_at 133 82 = some (.iload_n 2)) rfl,
  fun _ _ _ _ _ _ _ => p_r (by decide +kernel : p_at 133 83 = some (.imul)) rfl,
  fun _ _ _ _ _ _ => p_r (by decide +kernel : p_at 133 84 = some (.iconst 2)) rfl,
  fun _ _ _ _ _ _ _ => p_r (by decide +kernel : p_at 133 85 = some (.iadd)) rfl,
  fun _ _ _ _ _ _ => p_r (by decide +kernel : p_at 133 86 = some (.aload_n 0)) rfl,
  fun _ _ _ _ _ _ => p_r (by decide +kernel : p_at 133 87 = some (.iload_n 1)) rfl,
  fun _ _ _ _ _ _ _ => p_rcv (nl := 4) (by decide +kernel : p_at 133 88 = some (.invokevirtual 113)) (by decide +kernel : p_inv (p_own 133) 113 = some (1, 101, 2)) (by decide +kernel) (rfl : p_ob 24 = some (.inr (5, [some 25, some 26, none, none, none, some 27, some 28, some 29, some 30, some 31, some 32, some 33, some 34, some 35, some 36, some 37, some 38, some 39, none, none, some 40]))) rfl rfl (Nat.le_of_ble_eq_true rfl) (Nat.le_of_ble_eq_true rfl) (Nat.le_of_ble_eq_true rfl) rfl,
  fun _ _ _ _ _ _ _ => p_rb2 (c := fun x y => decide (y ≤ x)) (off := 14) (by decide +kernel : p_at 133 91 = some (.if_icmp .ge 14)) (by decide +kernel) rfl rfl rfl,
  fun _ _ _ _ _ => p_r (by decide +kernel : p_at 133 94 = some (.aload_n 0)) rfl,
  fun _ _ _ _ _ => p_rgf (f := some 26) (by decide +kernel : p_at 133 95 = some (.getfield 13)) (by decide +kernel : p_fld (p_own 133) 13 = some (5, 1)) (rfl : p_ob 24 = some (.inr (5, [some 25, some 26, none, none, none, some 27, some 28, some 29, some 30, some 31, some 32, some 33, some 34, some 35, some 36, some 37, some 38, some 39, none, none, some 40]))) rfl,
  fun _ _ _ _ _ => p_r (by decide +kernel : p_at 133 98 = some (.iload_n 3)) rfl,
  fun _ _ _ _ _ _ => p_r (by decide +kernel : p_at 133 99 = some (.iconst 2)) rfl,
  fun _ _ _ _ _ _ _ => p_r (by decide +kernel : p_at 133 100 = some (.iadd)) rfl,
  fun _ _ _ _ _ _ hp => p_rlald (by decide +kernel : p_at 133 101 = some (.laload)) (rfl : p_ob 26 = some (.inl (2, 512))) hp,
  fun _ _ _ _ _ _ => p_rgo (by decide +kernel : p_at 133 102 = some (.goto 9)) (by decide +kernel),
  fun _ _ _ _ _ => p_r (by decide +kernel : p_at 133 105 = some (.aload_n 0)) rfl,
  fun _ _ _ _ _ => p_rgf (f := some 26) (by decide +kernel : p_at 133 106 = some (.getfield 13)) (by decide +kernel : p_fld (p_own 133) 13 = some (5, 1)) (rfl : p_ob 24 = some (.inr (5, [some 25, some 26, none, none, none, some 27, some 28, some 29, some 30, some 31, some 32, some 33, some 34, some 35, some 36, some 37, some 38, some 39, none, none, some 40]))) rfl,
  fun _ _ _ _ _ => p_r (by decide +kernel : p_at 133 109 = some (.iload_n 3)) rfl,
  fun _ _ _ _ _ _ hp => p_rlald (by decide +kernel : p_at 133 110 = some (.laload)) (rfl : p_ob 26 = some (.inl (2, 512))) hp,
  fun _ _ _ _ _ _ => p_r (by decide +kernel : p_at 133 111 = some (.lstore 4)) rfl,
  fun _ _ _ _ _ _ => p_r (by decide +kernel : p_at 133 113 = some (.aload_n 0)) rfl,
  fun _ _ _ _ _ _ => p_rgf (f := none) (by decide +kernel : p_at 133 114 = some (.getfield 80)) (by decide +kernel : p_fld (p_own 133) 80 = some (5, 3)) (rfl : p_ob 24 = some (.inr (5, [some 25, some 26, none, none, none, some 27, some 28, some 29, some 30, some 31, some 32, some 33, some 34, some 35, some 36, some 37, some 38, some 39, none, none, some 40]))) rfl,
  fun _ _ _ _ _ _ _ => p_rb1 (c := fun x => decide (¬ x = 0)) (off := 21) (by decide +kernel : p_at 133 117 = some (.ifCond .ne 21)) (by decide +kernel) rfl rfl rfl,
  fun _ _ _ _ _ _ => p_r (by decide +kernel : p_at 133 120 = some (.aload_n 0)) rfl,
  fun _ _ _ _ _ _ => p_rgf (f := some 26) (by decide +kernel : p_at 133 121 = some (.getfield 13)) (by decide +kernel : p_fld (p_own 133) 13 = some (5, 1)) (rfl : p_ob 24 = some (.inr (5, [some 25, some 26, none, none, none, some 27, some 28, some 29, some 30, some 31, some 32, some 33, some 34, some 35, some 36, some 37, some 38, some 39, none, none, some 40]))) rfl,
  fun _ _ _ _ _ _ => p_r (by decide +kernel : p_at 133 124 = some (.iload_n 3)) rfl,
  fun _ _ _ _ _ _ _ => p_r (by decide +kernel : p_at 133 125 = some (.iconst 1)) rfl,
  fun _ _ _ _ _ _ _ _ => p_r (by decide +kernel : p_at 133 126 = some (.iadd)) rfl,
  fun _ _ _ _ _ _ _ hp => p_rlald (by decide +kernel : p_at 133 127 = some (.laload)) (rfl : p_ob 26 = some (.inl (2, 512))) hp,
  fun _ _ _ _ _ _ _ => p_r (by decide +kernel : p_at 133 128 = some (.aload_n 0)) rfl,
  fun _ _ _ _ _ _ _ => p_rgf (f := some 26) (by decide +kernel : p_at 133 129 = some (.getfield 13)) (by decide +kernel : p_fld (p_own 133) 13 = some (5, 1)) (rfl : p_ob 24 = some (.inr (5, [some 25, some 26, none, none, none, some 27, some 28, some 29, some 30, some 31, some 32, some 33, some 34, some 35, some 36, some 37, some 38, some 39, none, none, some 40]))) rfl,
  fun _ _ _ _ _ _ _ => p_r (by decide +kernel : p_at 133 132 = some (.iload_n 3)) rfl,
  fun _ _ _ _ _ _ _ _ hp => p_rlald (by decide +kernel : p_at 133 133 = some (.laload)) (rfl : p_ob 26 = some (.inl (2, 512))) hp,
  fun _ _ _ _ _ _ _ _ => p_r (by decide +kernel : p_at 133 134 = some (.lsub)) rfl,
  fun _ _ _ _ _ _ _ => p_rgo (by decide +kernel : p_at 133 135 = some (.goto 32)) (by decide +kernel),
  fun _ _ _ _ _ _ => p_r (by decide +kernel : p_at 133 138 = some (.aload_n 0)) rfl,
  fun _ _ _ _ _ _ => p_rgf (f := some 26) (by decide +kernel : p_at 133 139 = some (.getfield 13)) (by decide +kernel : p_fld (p_own 133) 13 = some (5, 1)) (rfl : p_ob 24 = some (.inr (5, [some 25, some 26, none, none, none, some 27, some 28, some 29, some 30, some 31, some 32, some 33, some 34, some 35, some 36, some 37, some 38, some 39, none, none, some 40]))) rfl,
  fun _ _ _ _ _ _ => p_r (by decide +kernel : p_at 133 142 = some (.iload_n 3)) rfl,
  fun _ _ _ _ _ _ _ hp => p_rlald (by decide +kernel : p_at 133 143 = some (.laload)) (rfl : p_ob 26 = some (.inl (2, 512))) hp,
  fun _ _ _ _ _ _ _ => p_r (by decide +kernel : p_at 133 144 = some (.lload 4)) rfl,
  fun _ _ _ _ _ _ _ _ => p_r (by decide +kernel : p_at 133 146 = some (.ladd)) rfl,
  fun _ _ _ _ _ _ _ => p_rldcJ (by decide +kernel : p_at 133 147 = some (.ldc2_w 70)) (by decide +kernel),
  fun _ _ _ _ _ _ _ _ => p_r (by decide +kernel : p_at 133 150 = some (.aload_n 0)) rfl,
  fun _ _ _ _ _ _ _ _ => p_rgf (f := some 26) (by decide +kernel : p_at 133 151 = some (.getfield 13)) (by decide +kernel : p_fld (p_own 133) 13 = some (5, 1)) (rfl : p_ob 24 = some (.inr (5, [some 25, some 26, none, none, none, some 27, some 28, some 29, some 30, some 31, some 32, some 33, some 34, some 35, some 36, some 37, some 38, some 39, none, none, some 40]))) rfl,
  fun _ _ _ _ _ _ _ _ => p_r (by decide +kernel : p_at 133 154 = some (.iload_n 3)) rfl,
  fun _ _ _ _ _ _ _ _ _ => p_r (by decide +kernel : p_at 133 155 = some (.iconst 1)) rfl,
  fun _ _ _ _ _ _ _ _ _ _ => p_r (by decide +kernel : p_at 133 156 = some (.iadd)) rfl,
  fun _ _ _ _ _ _ _ _ _ hp => p_rlald (by decide +kernel : p_at 133 157 = some (.laload)) (rfl : p_ob 26 = some (.inl (2, 512))) hp,
  fun _ _ _ _ _ _ _ _ _ => p_r (by decide +kernel : p_at 133 158 = some (.lmul)) rfl,
  fun _ _ _ _ _ _ _ _ => p_r (by decide +kernel : p_at 133 159 = some (.lsub)) rfl,
  fun _ _ _ _ _ _ _ => p_rldcJ (by decide +kernel : p_at 133 160 = some (.ldc2_w 70)) (by decide +kernel),
  fun _ _ _ _ _ _ _ _ => p_rcs (nl := 4) (by decide +kernel : p_at 133 163 = some (.invokestatic 83)) (by decide +kernel : p_inv (p_own 133) 83 = some (1, 99, 2)) (by decide +kernel) rfl rfl (Nat.le_of_ble_eq_true rfl) (Nat.le_of_ble_eq_true rfl) (Nat.le_of_ble_eq_true rfl) rfl,
  fun _ _ _ _ _ _ _ => p_r (by decide +kernel : p_at 133 166 = some (.lneg)) rfl,
  fun _ _ _ _ _ _ _ => p_rlret (by decide +kernel : p_at 133 167 = some (.lreturn)) (by decide +kernel)⟩
-- 134: cut
theorem M134 :
  (∀ (scr : pX) (w : pW) (x1 : Int32) (x2 : Int32) (x3 : Int32), p_ev scr 134 0 [.ref 24, .int x1, .int x2, .int x3, p_U, p_U, p_U, p_U, p_U, p_U, p_U] [] w = p_ev scr 134 1 [.ref 24, .int x1, .int x2, .int x3, p_U, p_U, p_U, p_U, p_U, p_U, p_U] [.ref 24] w) ∧
  (∀ (scr : pX) (w : pW) (x1 : Int32) (x2 : Int32) (x3 : Int32), p_ev scr 134 1 [.ref 24, .int x1, .int x2, .int x3, p_U, p_U, p_U, p_U, p_U, p_U, p_U] [.ref 24] w = p_ev scr 134 2 [.ref 24, .int x1, .int x2, .int x3, p_U, p_U, p_U, p_U, p_U, p_U, p_U] [.int (nI 0), .ref 24] w) ∧
  (∀ (scr : pX) (w : pW) (x1 : Int32) (x2 : Int32) (x3 : Int32) (s0 : Int32), p_ev scr 134 2 [.ref 24, .int x1, .int x2, .int x3, p_U, p_U, p_U, p_U, p_U, p_U, p_U] [.int s0, .ref 24] w = p_ev scr 134 5 [.ref 24, .int x1, .int x2, .int x3, p_U, p_U, p_U, p_U, p_U, p_U, p_U] [] (p_u w.1 24 4 s0, w.2)) ∧
  (∀ (scr : pX) (w : pW) (x1 : Int32) (x2 : Int32) (x3 : Int32), p_ev scr 134 5 [.ref 24, .int x1, .int x2, .int x3, p_U, p_U, p_U, p_U, p_U, p_U, p_U] [] w = p_ev scr 134 6 [.ref 24, .int x1, .int x2, .int x3, p_U, p_U, p_U, p_U, p_U, p_U, p_U] [.ref 24] w) ∧
  (∀ (scr : pX) (w : pW) (x1 : Int32) (x2 : Int32) (x3 : Int32), p_ev scr 134 6 [.ref 24, .int x1, .int x2, .int x3, p_U, p_U, p_U, p_U, p_U, p_U, p_U] [.ref 24] w = p_ev scr 134 7 [.ref 24, .int x1, .int x2, .int x3, p_U, p_U, p_U, p_U, p_U, p_U, p_U] [.int x1, .ref 24] w) ∧
  (∀ (scr : pX) (w : pW) (x1 : Int32) (x2 : Int32) (x3 : Int32) (s0 : Int32), p_ev scr 134 7 [.ref 24, .int x1, .int x2, .int x3, p_U, p_U, p_U, p_U, p_U, p_U, p_U] [.int s0, .ref 24] w = p_bnd scr 134 7 10 [.ref 24, .int x1, .int x2, .int x3, p_U, p_U, p_U, p_U, p_U, p_U, p_U] [] (p_ev none 102 0 [.ref 24, .int s0] [] w)) ∧
  (∀ (scr : pX) (w : pW) (x1 : Int32) (x2 : Int32) (x3 : Int32) (s0 : Int32), p_ev scr 134 10 [.ref 24, .int x1, .int x2, .int x3, p_U, p_U, p_U, p_U, p_U, p_U, p_U] [.int s0] w = if ¬ s0 = nI 0 then p_ev scr 134 19 [.ref 24, .int x1, .int x2, .int x3, p_U, p_U, p_U, p_U, p_U, p_U, p_U] [] w else p_ev scr 134 13 [.ref 24, .int x1, .int x2, .int x3, p_U, p_U, p_U, p_U, p_U, p_U, p_U] [] w) ∧
  (∀ (scr : pX) (w : pW) (x1 : Int32) (x2 : Int32) (x3 : Int32), p_ev scr 134 13 [.ref 24, .int x1, .int x2, .int x3, p_U, p_U, p_U, p_U, p_U, p_U, p_U] [] w = p_ev scr 134 14 [.ref 24, .int x1, .int x2, .int x3, p_U, p_U, p_U, p_U, p_U, p_U, p_U] [.ref 24] w) ∧
  (∀ (scr : pX) (w : pW) (x1 : Int32) (x2 : Int32) (x3 : Int32), p_ev scr 134 14 [.ref 24, .int x1, .int x2, .int x3, p_U, p_U, p_U, p_U, p_U, p_U, p_U] [.ref 24] w = p_ev scr 134 15 [.ref 24, .int x1, .int x2, .int x3, p_U, p_U, p_U, p_U, p_U, p_U, p_U] [.int (nI 1), .ref 24] w) ∧
  (∀ (scr : pX) (w : pW) (x1 : Int32) (x2 : Int32) (x3 : Int32) (s0 : Int32), p_ev scr 134 15 [.ref 24, .int x1, .int x2, .int x3, p_U, p_U, p_U, p_U, p_U, p_U, p_U] [.int s0, .ref 24] w = p_bnd scr 134 15 18 [.ref 24, .int x1, .int x2, .int x3, p_U, p_U, p_U, p_U, p_U, p_U, p_U] [] (p_ev none 96 0 [.ref 24, .int s0] [] w)) ∧
  (∀ (scr : pX) (w : pW) (x1 : Int32) (x2 : Int32) (x3 : Int32) (s0 : Int32), p_ev scr 134 18 [.ref 24, .int x1, .int x2, .int x3, p_U, p_U, p_U, p_U, p_U, p_U, p_U] [.int s0] w = some (.inl (some (.int s0)), w, 0)) ∧
  (∀ (scr : pX) (w : pW) (x1 : Int32) (x2 : Int32) (x3 : Int32), p_ev scr 134 19 [.ref 24, .int x1, .int x2, .int x3, p_U, p_U, p_U, p_U, p_U, p_U, p_U] [] w = p_ev scr 134 20 [.ref 24, .int x1, .int x2, .int x3, p_U, p_U, p_U, p_U, p_U, p_U, p_U] [.int x2] w) ∧
  (∀ (scr : pX) (w : pW) (x1 : Int32) (x2 : Int32) (x3 : Int32) (s0 : Int32), p_ev scr 134 20 [.ref 24, .int x1, .int x2, .int x3, p_U, p_U, p_U, p_U, p_U, p_U, p_U] [.int s0] w = p_ev scr 134 21 [.ref 24, .int x1, .int x2, .int x3, p_U, p_U, p_U, p_U, p_U, p_U, p_U] [.int (nI 0), .int s0] w) ∧
  (∀ (scr : pX) (w : pW) (x1 : Int32) (x2 : Int32) (x3 : Int32) (s0 : Int32) (s1 : Int32), p_ev scr 134 21 [.ref 24, .int x1, .int x2, .int x3, p_U, p_U, p_U, p_U, p_U, p_U, p_U] [.int s0, .int s1] w = p_ev scr 134 23 [.ref 24, .int x1, .int x2, .int x3, p_U, p_U, p_U, p_U, p_U, p_U, p_U] [.int (nI 100000), .int s0, .int s1] w) ∧
  (∀ (scr : pX) (w : pW) (x1 : Int32) (x2 : Int32) (x3 : Int32) (s0 : Int32) (s1 : Int32) (s2 : Int32), p_ev scr 134 23 [.ref 24, .int x1, .int x2, .int x3, p_U, p_U, p_U, p_U, p_U, p_U, p_U] [.int s0, .int s1, .int s2] w = p_bnd scr 134 23 26 [.ref 24, .int x1, .int x2, .int x3, p_U, p_U, p_U, p_U, p_U, p_U, p_U] [] (p_ev none 97 0 [.int s2, .int s1, .int s0] [] w)) ∧
  (∀ (scr : pX) (w : pW) (x1 : Int32) (x2 : Int32) (x3 : Int32) (s0 : Int32), p_ev scr 134 26 [.ref 24, .int x1, .int x2, .int x3, p_U, p_U, p_U, p_U, p_U, p_U, p_U] [.int s0] w = if ¬ s0 = nI 0 then p_ev scr 134 35 [.ref 24, .int x1, .int x2, .int x3, p_U, p_U, p_U, p_U, p_U, p_U, p_U] [] w else p_ev scr 134 29 [.ref 24, .int x1, .int x2, .int x3, p_U, p_U, p_U, p_U, p_U, p_U, p_U] [] w) ∧
  (∀ (scr : pX) (w : pW) (x1 : Int32) (x2 : Int32) (x3 : Int32), p_ev scr 134 29 [.ref 24, .int x1, .int x2, .int x3, p_U, p_U, p_U, p_U, p_U, p_U, p_U] [] w = p_ev scr 134 30 [.ref 24, .int x1, .int x2, .int x3, p_U, p_U, p_U, p_U, p_U, p_U, p_U] [.ref 24] w) ∧
  (∀ (scr : pX) (w : pW) (x1 : Int32) (x2 : Int32) (x3 : Int32), p_ev scr 134 30 [.ref 24, .int x1, .int x2, .int x3, p_U, p_U, p_U, p_U, p_U, p_U, p_U] [.ref 24] w = p_ev scr 134 31 [.ref 24, .int x1, .int x2, .int x3, p_U, p_U, p_U, p_U, p_U, p_U, p_U] [.int (nI 2), .ref 24] w) ∧
  (∀ (scr : pX) (w : pW) (x1 : Int32) (x2 : Int32) (x3 : Int32) (s0 : Int32), p_ev scr 134 31 [.ref 24, .int x1, .int x2, .int x3, p_U, p_U, p_U, p_U, p_U, p_U, p_U] [.int s0, .ref 24] w = p_bnd scr 134 31 34 [.ref 24, .int x1, .int x2, .int x3, p_U, p_U, p_U, p_U, p_U, p_U, p_U] [] (p_ev none 96 0 [.ref 24, .int s0] [] w)) ∧
  (∀ (scr : pX) (w : pW) (x1 : Int32) (x2 : Int32) (x3 : Int32) (s0 : Int32), p_ev scr 134 34 [.ref 24, .int x1, .int x2, .int x3, p_U, p_U, p_U, p_U, p_U, p_U, p_U] [.int s0] w = some (.inl (some (.int s0)), w, 0)) ∧
  (∀ (scr : pX) (w : pW) (x1 : Int32) (x2 : Int32) (x3 : Int32), p_ev scr 134 35 [.ref 24, .int x1, .int x2, .int x3, p_U, p_U, p_U, p_U, p_U, p_U, p_U] [] w = p_ev scr 134 36 [.ref 24, .int x1, .int x2, .int x3, p_U, p_U, p_U, p_U, p_U, p_U, p_U] [.ref 24] w) ∧
  (∀ (scr : pX) (w : pW) (x1 : Int32) (x2 : Int32) (x3 : Int32), p_ev scr 134 36 [.ref 24, .int x1, .int x2, .int x3, p_U, p_U, p_U, p_U, p_U, p_U, p_U] [.ref 24] w = p_ev scr 134 39 [.ref 24, .int x1, .int x2, .int x3, p_U, p_U, p_U, p_U, p_U, p_U, p_U] [.ref 25] w) ∧
  (∀ (scr : pX) (w : pW) (x1 : Int32) (x2 : Int32) (x3 : Int32), p_ev scr 134 39 [.ref 24, .int x1, .int x2, .int x3, p_U, p_U, p_U, p_U, p_U, p_U, p_U] [.ref 25] w = p_ev scr 134 40 [.ref 24, .int x1, .int x2, .int x3, p_U, p_U, p_U, p_U, p_U, p_U, p_U] [.int x1, .ref 25] w) ∧
  (∀ (scr : pX) (w : pW) (x1 : Int32) (x2 : Int32) (x3 : Int32) (s0 : Int32), p_out s0 16 = false → p_ev scr 134 40 [.ref 24, .int x1, .int x2, .int x3, p_U, p_U, p_U, p_U, p_U, p_U, p_U] [.int s0, .ref 25] w = p_ev scr 134 41 [.ref 24, .int x1, .int x2, .int x3, p_U, p_U, p_U, p_U, p_U, p_U, p_U] [.int (w.2.2 25 s0.toNatClampNeg)] w) ∧
  (∀ (scr : pX) (w : pW) (x1 : Int32) (x2 : Int32) (x3 : Int32) (s0 : Int32), p_ev scr 134 41 [.ref 24, .int x1, .int x2, .int x3, p_U, p_U, p_U, p_U, p_U, p_U, p_U] [.int s0] w = p_ev scr 134 42 [.ref 24, .int x1, .int x2, .int x3, p_U, p_U, p_U, p_U, p_U, p_U, p_U] [.int (nI 1), .int s0] w) ∧
  (∀ (scr : pX) (w : pW) (x1 : Int32) (x2 : Int32) (x3 : Int32) (s0 : Int32) (s1 : Int32), p_ev scr 134 42 [.ref 24, .int x1, .int x2, .int x3, p_U, p_U, p_U, p_U, p_U, p_U, p_U] [.int s0, .int s1] w = if s1 = s0 then p_ev scr 134 51 [.ref 24, .int x1, .int x2, .int x3, p_U, p_U, p_U, p_U, p_U, p_U, p_U] [] w else p_ev scr 134 45 [.ref 24, .int x1, .int x2, .int x3, p_U, p_U, p_U, p_U, p_U, p_U, p_U] [] w) ∧
  (∀ (scr : pX) (w : pW) (x1 : Int32) (x2 : Int32) (x3 : Int32), p_ev scr 134 45 [.ref 24, .int x1, .int x2, .int x3, p_U, p_U, p_U, p_U, p_U, p_U, p_U] [] w = p_ev scr 134 46 [.ref 24, .int x1, .int x2, .int x3, p_U, p_U, p_U, p_U, p_U, p_U, p_U] [.ref 24] w) ∧
  (∀ (scr : pX) (w : pW) (x1 : Int32) (x2 : Int32) (x3 : Int32), p_ev scr 134 46 [.ref 24, .int x1, .int x2, .int x3, p_U, p_U, p_U, p_U, p_U, p_U, p_U] [.ref 24] w = p_ev scr 134 47 [.ref 24, .int x1, .int x2, .int x3, p_U, p_U, p_U, p_U, p_U, p_U, p_U] [.int (nI 3), .ref 24] w) ∧
  (∀ (scr : pX) (w : pW) (x1 : Int32) (x2 : Int32) (x3 : Int32) (s0 : Int32), p_ev scr 134 47 [.ref 24, .int x1, .int x2, .int x3, p_U, p_U, p_U, p_U, p_U, p_U, p_U] [.int s0, .ref 24] w = p_bnd scr 134 47 50 [.ref 24, .int x1, .int x2, .int x3, p_U, p_U, p_U, p_U, p_U, p_U, p_U] [] (p_ev none 96 0 [.ref 24, .int s0] [] w)) ∧
  (∀ (scr : pX) (w : pW) (x1 : Int32) (x2 : Int32) (x3 : Int32) (s0 : Int32), p_ev scr 134 50 [.ref 24, .int x1, .int x2, .int x3, p_U, p_U, p_U, p_U, p_U, p_U, p_U] [.int s0] w = some (.inl (some (.int s0)), w, 0)) ∧
  (∀ (scr : pX) (w : pW) (x1 : Int32) (x2 : Int32) (x3 : Int32), p_ev scr 134 51 [.ref 24, .int x1, .int x2, .int x3, p_U, p_U, p_U, p_U, p_U, p_U, p_U] [] w = p_ev scr 134 52 [.ref 24, .int x1, .int x2, .int x3, p_U, p_U, p_U, p_U, p_U, p_U, p_U] [.int (nI 0)] w) ∧
  (∀ (scr : pX) (w : pW) (x1 : Int32) (x2 : Int32) (x3 : Int32) (s0 : Int32), p_ev scr 134 52 [.ref 24, .int x1, .int x2, .int x3, p_U, p_U, p_U, p_U, p_U, p_U, p_U] [.int s0] w = p_ev scr 134 54 [.ref 24, .int x1, .int x2, .int x3, .int s0, p_U, p_U, p_U, p_U, p_U, p_U] [] w) ∧
  (∀ (scr : pX) (w : pW) (x1 : Int32) (x2 : Int32) (x3 : Int32) (x4 : Int32), p_ev scr 134 54 [.ref 24, .int x1, .int x2, .int x3, .int x4, p_U, p_U, p_U, p_U, p_U, p_U] [] w = p_ev scr 134 55 [.ref 24, .int x1, .int x2, .int x3, .int x4, p_U, p_U, p_U, p_U, p_U, p_U] [.int (nI 0)] w) ∧
  (∀ (scr : pX) (w : pW) (x1 : Int32) (x2 : Int32) (x3 : Int32) (x4 : Int32) (s0 : Int32), p_ev scr 134 55 [.ref 24, .int x1, .int x2, .int x3, .int x4, p_U, p_U, p_U, p_U, p_U, p_U] [.int s0] w = p_ev scr 134 57 [.ref 24, .int x1, .int x2, .int x3, .int x4, .int s0, p_U, p_U, p_U, p_U, p_U] [] w) ∧
  (∀ (scr : pX) (w : pW) (x1 : Int32) (x2 : Int32) (x3 : Int32) (x4 : Int32) (x5 : Int32) (z6 : Value) (z8 : Value) (z9 : Value) (s0 : Int32), p_ev scr 134 59 [.ref 24, .int x1, .int x2, .int x3, .int x4, .int x5, z6, p_U, z8, z9, p_U] [.int s0] w = p_ev scr 134 60 [.ref 24, .int x1, .int x2, .int x3, .int x4, .int x5, z6, p_U, z8, z9, p_U] [.ref 24, .int s0] w) ∧
  (∀ (scr : pX) (w : pW) (x1 : Int32) (x2 : Int32) (x3 : Int32) (x4 : Int32) (x5 : Int32) (z6 : Value) (z8 : Value) (z9 : Value) (s1 : Int32), p_ev scr 134 60 [.ref 24, .int x1, .int x2, .int x3, .int x4, .int x5, z6, p_U, z8, z9, p_U] [.ref 24, .int s1] w = p_ev scr 134 61 [.ref 24, .int x1, .int x2, .int x3, .int x4, .int x5, z6, p_U, z8, z9, p_U] [.int x1, .ref 24, .int s1] w) ∧
  (∀ (scr : pX) (w : pW) (x1 : Int32) (x2 : Int32) (x3 : Int32) (x4 : Int32) (x5 : Int32) (z6 : Value) (z8 : Value) (z9 : Value) (s0 : Int32) (s2 : Int32), p_ev scr 134 61 [.ref 24, .int x1, .int x2, .int x3, .int x4, .int x5, z6, p_U, z8, z9, p_U] [.int s0, .ref 24, .int s2] w = p_bnd scr 134 61 64 [.ref 24, .int x1, .int x2, .int x3, .int x4, .int x5, z6, p_U, z8, z9, p_U] [.int s2] (p_ev none 101 0 [.ref 24, .int s0, p_U, p_U] [] w)) ∧
  (∀ (scr : pX) (w : pW) (x1 : Int32) (x2 : Int32) (x3 : Int32) (x4 : Int32) (x5 : Int32) (z6 : Value) (z8 : Value) (z9 : Value) (s0 : Int32) (s1 : Int32), p_ev scr 134 64 [.ref 24, .int x1, .int x2, .int x3, .int x4, .int x5, z6, p_U, z8, z9, p_U] [.int s0, .int s1] w = if s0 ≤ s1 then p_ev scr 134 181 [.ref 24, .int x1, .int x2, .int x3, .int x4, .int x5, z6, p_U, z8, z9, p_U] [] w else p_ev scr 134 67 [.ref 24, .int x1, .int x2, .int x3, .int x4, .int x5, z6, p_U, z8, z9, p_U] [] w) ∧
  (∀ (scr : pX) (w : pW) (x1 : Int32) (x2 : Int32) (x3 : Int32) (x4 : Int32) (x5 : Int32) (z6 : Value) (z8 : Value) (z9 : Value), p_ev scr 134 67 [.ref 24, .int x1, .int x2, .int x3, .int x4, .int x5, z6, p_U, z8, z9, p_U] [] w = p_ev scr 134 68 [.ref 24, .int x1, .int x2, .int x3, .int x4, .int x5, z6, p_U, z8, z9, p_U] [.ref 24] w) ∧
  (∀ (scr : pX) (w : pW) (x1 : Int32) (x2 : Int32) (x3 : Int32) (x4 : Int32) (x5 : Int32) (z6 : Value) (z8 : Value) (z9 : Value), p_ev scr 134 68 [.ref 24, .int x1, .int x2, .int x3, .int x4, .int x5, z6, p_U, z8, z9, p_U] [.ref 24] w = p_ev scr 134 71 [.ref 24, .int x1, .int x2, .int x3, .int x4, .int x5, z6, p_U, z8, z9, p_U] [.ref 26] w) ∧
  (∀ (scr : pX) (w : pW) (x1 : Int32) (x2 : Int32) (x3 : Int32) (x4 : Int32) (x5 : Int32) (z6 : Value) (z8 : Value) (z9 : Value), p_ev scr 134 71 [.ref 24, .int x1, .int x2, .int x3, .int x4, .int x5, z6, p_U, z8, z9, p_U] [.ref 26] w = p_ev scr 134 73 [.ref 24, .int x1, .int x2, .int x3, .int x4, .int x5, z6, p_U, z8, z9, p_U] [.int (nI 32), .ref 26] w) ∧
  (∀ (scr : pX) (w : pW) (x1 : Int32) (x2 : Int32) (x3 : Int32) (x4 : Int32) (x5 : Int32) (z6 : Value) (z8 : Value) (z9 : Value) (s0 : Int32), p_ev scr 134 73 [.ref 24, .int x1, .int x2, .int x3, .int x4, .int x5, z6, p_U, z8, z9, p_U] [.int s0, .ref 26] w = p_ev scr 134 74 [.ref 24, .int x1, .int x2, .int x3, .int x4, .int x5, z6, p_U, z8, z9, p_U] [.int x1, .int s0, .ref 26] w) ∧
  (∀ (scr : pX) (w : pW) (x1 : Int32) (x2 : Int32) (x3 : Int32) (x4 : Int32) (x5 : Int32) (z6 : Value) (z8 : Value) (z9 : Value) (s0 : Int32) (s1 : Int32), p_ev scr 134 74 [.ref 24, .int x1, .int x2, .int x3, .int x4, .int x5, z6, p_U, z8, z9, p_U] [.int s0, .int s1, .ref 26] w = p_ev scr 134 75 [.ref 24, .int x1, .int x2, .int x3, .int x4, .int x5, z6, p_U, z8, z9, p_U] [.int (s1 * s0), .ref 26] w) ∧
  (∀ (scr : pX) (w : pW) (x1 : Int32) (x2 : Int32) (x3 : Int32) (x4 : Int32) (x5 : Int32) (z6 : Value) (z8 : Value) (z9 : Value) (s0 : Int32), p_ev scr 134 75 [.ref 24, .int x1, .int x2, .int x3, .int x4, .int x5, z6, p_U, z8, z9, p_U] [.int s0, .ref 26] w = p_ev scr 134 77 [.ref 24, .int x1, .int x2, .int x3, .int x4, .int x5, z6, p_U, z8, z9, p_U] [.int x5, .int s0, .ref 26] w) ∧
  (∀ (scr : pX) (w : pW) (x1 : Int32) (x2 : Int32) (x3 : Int32) (x4 : Int32) (x5 : Int32) (z6 : Value) (z8 : Value) (z9 : Value) (s0 : Int32) (s1 : Int32), p_ev scr 134 77 [.ref 24, .int x1, .int x2, .int x3, .int x4, .int x5, z6, p_U, z8, z9, p_U] [.int s0, .int s1, .ref 26] w = p_ev scr 134 78 [.ref 24, .int x1, .int x2, .int x3, .int x4, .int x5, z6, p_U, z8, z9, p_U] [.int (s1 + s0), .ref 26] w) ∧
  (∀ (scr : pX) (w : pW) (x1 : Int32) (x2 : Int32) (x3 : Int32) (x4 : Int32) (x5 : Int32) (z6 : Value) (z8 : Value) (z9 : Value) (s0 : Int32), p_out s0 512 = false → p_ev scr 134 78 [.ref 24, .int x1, .int x2, .int x3, .int x4, .int x5, z6, p_U, z8, z9, p_U] [.int s0, .ref 26] w = p_ev scr 134 79 [.ref 24, .int x1, .int x2, .int x3, .int x4, .int x5, z6, p_U, z8, z9, p_U] [.long (w.2.1 26 s0.toNatClampNeg)] w) ∧
  (∀ (scr : pX) (w : pW) (x1 : Int32) (x2 : Int32) (x3 : Int32) (x4 : Int32) (x5 : Int32) (z6 : Value) (z8 : Value) (z9 : Value) (t0 : Int64), p_ev scr 134 79 [.ref 24, .int x1, .int x2, .int x3, .int x4, .int x5, z6, p_U, z8, z9, p_U] [.long t0] w = p_ev scr 134 81 [.ref 24, .int x1, .int x2, .int x3, .int x4, .int x5, .long t0, p_U, z8, z9, p_U] [] w) ∧
  (∀ (scr : pX) (w : pW) (x1 : Int32) (x2 : Int32) (x3 : Int32) (x4 : Int32) (x5 : Int32) (y6 : Int64) (z8 : Value) (z9 : Value), p_ev scr 134 81 [.ref 24, .int x1, .int x2, .int x3, .int x4, .int x5, .long y6, p_U, z8, z9, p_U] [] w = p_ev scr 134 83 [.ref 24, .int x1, .int x2, .int x3, .int x4, .int x5, .long y6, p_U, z8, z9, p_U] [.long y6] w) ∧
  (∀ (scr : pX) (w : pW) (x1 : Int32) (x2 : Int32) (x3 : Int32) (x4 : Int32) (x5 : Int32) (y6 : Int64) (z8 : Value) (z9 : Value) (t0 : Int64), p_ev scr 134 83 [.ref 24, .int x1, .int x2, .int x3, .int x4, .int x5, .long y6, p_U, z8, z9, p_U] [.long t0] w = p_bnd scr 134 83 86 [.ref 24, .int x1, .int x2, .int x3, .int x4, .int x5, .long y6, p_U, z8, z9, p_U] [] (p_ev none 98 0 [.long t0, p_U] [] w)) ∧
  (∀ (scr : pX) (w : pW) (x1 : Int32) (x2 : Int32) (x3 : Int32) (x4 : Int32) (x5 : Int32) (y6 : Int64) (z8 : Value) (z9 : Value) (t0 : Int64), p_ev scr 134 86 [.ref 24, .int x1, .int x2, .int x3, .int x4, .int x5, .long y6, p_U, z8, z9, p_U] [.long t0] w = p_ev scr 134 87 [.ref 24, .int x1, .int x2, .int x3, .int x4, .int x5, .long y6, p_U, z8, z9, p_U] [.int x2, .long t0] w) ∧
  (∀ (scr : pX) (w : pW) (x1 : Int32) (x2 : Int32) (x3 : Int32) (x4 : Int32) (x5 : Int32) (y6 : Int64) (z8 : Value) (z9 : Value) (s0 : Int32) (t1 : Int64), p_ev scr 134 87 [.ref 24, .int x1, .int x2, .int x3, .int x4, .int x5, .long y6, p_U, z8, z9, p_U] [.int s0, .long t1] w = p_ev scr 134 88 [.ref 24, .int x1, .int x2, .int x3, .int x4, .int x5, .long y6, p_U, z8, z9, p_U] [.long s0.toInt64, .long t1] w) ∧
  (∀ (scr : pX) (w : pW) (x1 : Int32) (x2 : Int32) (x3 : Int32) (x4 : Int32) (x5 : Int32) (y6 : Int64) (z8 : Value) (z9 : Value) (t0 : Int64) (t1 : Int64), p_ev scr 134 88 [.ref 24, .int x1, .int x2, .int x3, .int x4, .int x5, .long y6, p_U, z8, z9, p_U] [.long t0, .long t1] w = p_ev scr 134 89 [.ref 24, .int x1, .int x2, .int x3, .int x4, .int x5, .long y6, p_U, z8, z9, p_U] [.int (lg_cmp t1 t0)] w) ∧
  (∀ (scr : pX) (w : pW) (x1 : Int32) (x2 : Int32) (x3 : Int32) (x4 : Int32) (x5 : Int32) (y6 : Int64) (z8 : Value) (z9 : Value) (s0 : Int32), p_ev scr 134 89 [.ref 24, .int x1, .int x2, .int x3, .int x4, .int x5, .long y6, p_U, z8, z9, p_U] [.int s0] w = if nI 0 < s0 then p_ev scr 134 96 [.ref 24, .int x1, .int x2, .int x3, .int x4, .int x5, .long y6, p_U, z8, z9, p_U] [] w else p_ev scr 134 92 [.ref 24, .int x1, .int x2, .int x3, .int x4, .int x5, .long y6, p_U, z8, z9, p_U] [] w) ∧
  (∀ (scr : pX) (w : pW) (x1 : Int32) (x2 : Int32) (x3 : Int32) (x4 : Int32) (x5 : Int32) (y6 : Int64) (z8 : Value) (z9 : Value), p_ev scr 134 92 [.ref 24, .int x1, .int x2, .int x3, .int x4, .int x5, .long y6, p_U, z8, z9, p_U] [] w = p_ev scr 134 93 [.ref 24, .int x1, .int x2, .int x3, .int x4, .int x5, .long y6, p_U, z8, z9, p_U] [.int (nI 1)] w) ∧
  (∀ (scr : pX) (w : pW) (x1 : Int32) (x2 : Int32) (x3 : Int32) (x4 : Int32) (x5 : Int32) (y6 : Int64) (z8 : Value) (z9 : Value) (s0 : Int32), p_ev scr 134 93 [.ref 24, .int x1, .int x2, .int x3, .int x4, .int x5, .long y6, p_U, z8, z9, p_U] [.int s0] w = p_ev scr 134 97 [.ref 24, .int x1, .int x2, .int x3, .int x4, .int x5, .long y6, p_U, z8, z9, p_U] [.int s0] w) ∧
  (∀ (scr : pX) (w : pW) (x1 : Int32) (x2 : Int32) (x3 : Int32) (x4 : Int32) (x5 : Int32) (y6 : Int64) (z8 : Value) (z9 : Value), p_ev scr 134 96 [.ref 24, .int x1, .int x2, .int x3, .int x4, .int x5, .long y6, p_U, z8, z9, p_U] [] w = p_ev scr 134 97 [.ref 24, .int x1, .int x2, .int x3, .int x4, .int x5, .long y6, p_U, z8, z9, p_U] [.int (nI 0)] w) ∧
  (∀ (scr : pX) (w : pW) (x1 : Int32) (x2 : Int32) (x3 : Int32) (x4 : Int32) (x5 : Int32) (y6 : Int64) (z8 : Value) (z9 : Value) (s0 : Int32), p_ev scr 134 97 [.ref 24, .int x1, .int x2, .int x3, .int x4, .int x5, .long y6, p_U, z8, z9, p_U] [.int s0] w = p_ev scr 134 99 [.ref 24, .int x1, .int x2, .int x3, .int x4, .int x5, .long y6, p_U, .int s0, z9, p_U] [] w) ∧
  (∀ (scr : pX) (w : pW) (x1 : Int32) (x2 : Int32) (x3 : Int32) (x4 : Int32) (x5 : Int32) (y6 : Int64) (x8 : Int32) (z9 : Value), p_ev scr 134 99 [.ref 24, .int x1, .int x2, .int x3, .int x4, .int x5, .long y6, p_U, .int x8, z9, p_U] [] w = p_ev scr 134 101 [.ref 24, .int x1, .int x2, .int x3, .int x4, .int x5, .long y6, p_U, .int x8, z9, p_U] [.int x4] w) ∧
  (∀ (scr : pX) (w : pW) (x1 : Int32) (x2 : Int32) (x3 : Int32) (x4 : Int32) (x5 : Int32) (y6 : Int64) (x8 : Int32) (z9 : Value) (s0 : Int32), p_ev scr 134 101 [.ref 24, .int x1, .int x2, .int x3, .int x4, .int x5, .long y6, p_U, .int x8, z9, p_U] [.int s0] w = p_ev scr 134 103 [.ref 24, .int x1, .int x2, .int x3, .int x4, .int x5, .long y6, p_U, .int x8, z9, p_U] [.int x8, .int s0] w) ∧
  (∀ (scr : pX) (w : pW) (x1 : Int32) (x2 : Int32) (x3 : Int32) (x4 : Int32) (x5 : Int32) (y6 : Int64) (x8 : Int32) (z9 : Value) (s0 : Int32) (s1 : Int32), p_ev scr 134 103 [.ref 24, .int x1, .int x2, .int x3, .int x4, .int x5, .long y6, p_U, .int x8, z9, p_U] [.int s0, .int s1] w = if s0 = nI 0 then p_ev scr 134 117 [.ref 24, .int x1, .int x2, .int x3, .int x4, .int x5, .long y6, p_U, .int x8, z9, p_U] [.int s1] w else p_ev scr 134 106 [.ref 24, .int x1, .int x2, .int x3, .int x4, .int x5, .long y6, p_U, .int x8, z9, p_U] [.int s1] w) ∧
  (∀ (scr : pX) (w : pW) (x1 : Int32) (x2 : Int32) (x3 : Int32) (x4 : Int32) (x5 : Int32) (y6 : Int64) (x8 : Int32) (z9 : Value) (s0 : Int32), p_ev scr 134 106 [.ref 24, .int x1, .int x2, .int x3, .int x4, .int x5, .long y6, p_U, .int x8, z9, p_U] [.int s0] w = p_ev scr 134 108 [.ref 24, .int x1, .int x2, .int x3, .int x4, .int x5, .long y6, p_U, .int x8, z9, p_U] [.long y6, .int s0] w) ∧
  (∀ (scr : pX) (w : pW) (x1 : Int32) (x2 : Int32) (x3 : Int32) (x4 : Int32) (x5 : Int32) (y6 : Int64) (x8 : Int32) (z9 : Value) (t0 : Int64) (s1 : Int32), p_ev scr 134 108 [.ref 24, .int x1, .int x2, .int x3, .int x4, .int x5, .long y6, p_U, .int x8, z9, p_U] [.long t0, .int s1] w = p_ev scr 134 109 [.ref 24, .int x1, .int x2, .int x3, .int x4, .int x5, .long y6, p_U, .int x8, z9, p_U] [.long (lN 0), .long t0, .int s1] w) ∧
  (∀ (scr : pX) (w : pW) (x1 : Int32) (x2 : Int32) (x3 : Int32) (x4 : Int32) (x5 : Int32) (y6 : Int64) (x8 : Int32) (z9 : Value) (t0 : Int64) (t1 : Int64) (s2 : Int32), p_ev scr 134 109 [.ref 24, .int x1, .int x2, .int x3, .int x4, .int x5, .long y6, p_U, .int x8, z9, p_U] [.long t0, .long t1, .int s2] w = p_ev scr 134 110 [.ref 24, .int x1, .int x2, .int x3, .int x4, .int x5, .long y6, p_U, .int x8, z9, p_U] [.int (lg_cmp t1 t0), .int s2] w) ∧
  (∀ (scr : pX) (w : pW) (x1 : Int32) (x2 : Int32) (x3 : Int32) (x4 : Int32) (x5 : Int32) (y6 : Int64) (x8 : Int32) (z9 : Value) (s0 : Int32) (s1 : Int32), p_ev scr 134 110 [.ref 24, .int x1, .int x2, .int x3, .int x4, .int x5, .long y6, p_U, .int x8, z9, p_U] [.int s0, .int s1] w = if s0 = nI 0 then p_ev scr 134 117 [.ref 24, .int x1, .int x2, .int x3, .int x4, .int x5, .long y6, p_U, .int x8, z9, p_U] [.int s1] w else p_ev scr 134 113 [.ref 24, .int x1, .int x2, .int x3, .int x4, .int x5, .long y6, p_U, .int x8, z9, p_U] [.int s1] w) ∧
  (∀ (scr : pX) (w : pW) (x1 : Int32) (x2 : Int32) (x3 : Int32) (x4 : Int32) (x5 : Int32) (y6 : Int64) (x8 : Int32) (z9 : Value) (s0 : Int32), p_ev scr 134 113 [.ref 24, .int x1, .int x2, .int x3, .int x4, .int x5, .long y6, p_U, .int x8, z9, p_U] [.int s0] w = p_ev scr 134 114 [.ref 24, .int x1, .int x2, .int x3, .int x4, .int x5, .long y6, p_U, .int x8, z9, p_U] [.int (nI 1), .int s0] w) ∧
  (∀ (scr : pX) (w : pW) (x1 : Int32) (x2 : Int32) (x3 : Int32) (x4 : Int32) (x5 : Int32) (y6 : Int64) (x8 : Int32) (z9 : Value) (s0 : Int32) (s1 : Int32), p_ev scr 134 114 [.ref 24, .int x1, .int x2, .int x3, .int x4, .int x5, .long y6, p_U, .int x8, z9, p_U] [.int s0, .int s1] w = p_ev scr 134 118 [.ref 24, .int x1, .int x2, .int x3, .int x4, .int x5, .long y6, p_U, .int x8, z9, p_U] [.int s0, .int s1] w) ∧
  (∀ (scr : pX) (w : pW) (x1 : Int32) (x2 : Int32) (x3 : Int32) (x4 : Int32) (x5 : Int32) (y6 : Int64) (x8 : Int32) (z9 : Value) (s0 : Int32), p_ev scr 134 117 [.ref 24, .int x1, .int x2, .int x3, .int x4, .int x5, .long y6, p_U, .int x8, z9, p_U] [.int s0] w = p_ev scr 134 118 [.ref 24, .int x1, .int x2, .int x3, .int x4, .int x5, .long y6, p_U, .int x8, z9, p_U] [.int (nI 0), .int s0] w) ∧
  (∀ (scr : pX) (w : pW) (x1 : Int32) (x2 : Int32) (x3 : Int32) (x4 : Int32) (x5 : Int32) (y6 : Int64) (x8 : Int32) (z9 : Value) (s0 : Int32) (s1 : Int32), p_ev scr 134 118 [.ref 24, .int x1, .int x2, .int x3, .int x4, .int x5, .long y6, p_U, .int x8, z9, p_U] [.int s0, .int s1] w = p_ev scr 134 119 [.ref 24, .int x1, .int x2, .int x3, .int x4, .int x5, .long y6, p_U, .int x8, z9, p_U] [.int (s1 + s0)] w) ∧
  (∀ (scr : pX) (w : pW) (x1 : Int32) (x2 : Int32) (x3 : Int32) (x4 : Int32) (x5 : Int32) (y6 : Int64) (x8 : Int32) (z9 : Value) (s0 : Int32), p_ev scr 134 119 [.ref 24, .int x1, .int x2, .int x3, .int x4, .int x5, .long y6, p_U, .int x8, z9, p_U] [.int s0] w = p_ev scr 134 121 [.ref 24, .int x1, .int x2, .int x3, .int s0, .int x5, .long y6, p_U, .int x8, z9, p_U] [] w) ∧
  (∀ (scr : pX) (w : pW) (x1 : Int32) (x2 : Int32) (x3 : Int32) (x4 : Int32) (x5 : Int32) (y6 : Int64) (x8 : Int32) (z9 : Value), p_ev scr 134 121 [.ref 24, .int x1, .int x2, .int x3, .int x4, .int x5, .long y6, p_U, .int x8, z9, p_U] [] w = p_ev scr 134 123 [.ref 24, .int x1, .int x2, .int x3, .int x4, .int x5, .long y6, p_U, .int x8, z9, p_U] [.long y6] w) ∧
  (∀ (scr : pX) (w : pW) (x1 : Int32) (x2 : Int32) (x3 : Int32) (x4 : Int32) (x5 : Int32) (y6 : Int64) (x8 : Int32) (z9 : Value) (t0 : Int64), p_ev scr 134 123 [.ref 24, .int x1, .int x2, .int x3, .int x4, .int x5, .long y6, p_U, .int x8, z9, p_U] [.long t0] w = p_ev scr 134 124 [.ref 24, .int x1, .int x2, .int x3, .int x4, .int x5, .long y6, p_U, .int x8, z9, p_U] [.long (lN 0), .long t0] w) ∧
  (∀ (scr : pX) (w : pW) (x1 : Int32) (x2 : Int32) (x3 : Int32) (x4 : Int32) (x5 : Int32) (y6 : Int64) (x8 : Int32) (z9 : Value) (t0 : Int64) (t1 : Int64), p_ev scr 134 124 [.ref 24, .int x1, .int x2, .int x3, .int x4, .int x5, .long y6, p_U, .int x8, z9, p_U] [.long t0, .long t1] w = p_ev scr 134 125 [.ref 24, .int x1, .int x2, .int x3, .int x4, .int x5, .long y6, p_U, .int x8, z9, p_U] [.int (lg_cmp t1 t0)] w) ∧
  (∀ (scr : pX) (w : pW) (x1 : Int32) (x2 : Int32) (x3 : Int32) (x4 : Int32) (x5 : Int32) (y6 : Int64) (x8 : Int32) (z9 : Value) (s0 : Int32), p_ev scr 134 125 [.ref 24, .int x1, .int x2, .int x3, .int x4, .int x5, .long y6, p_U, .int x8, z9, p_U] [.int s0] w = if nI 0 ≤ s0 then p_ev scr 134 136 [.ref 24, .int x1, .int x2, .int x3, .int x4, .int x5, .long y6, p_U, .int x8, z9, p_U] [] w else p_ev scr 134 128 [.ref 24, .int x1, .int x2, .int x3, .int x4, .int x5, .long y6, p_U, .int x8, z9, p_U] [] w) ∧
  (∀ (scr : pX) (w : pW) (x1 : Int32) (x2 : Int32) (x3 : Int32) (x4 : Int32) (x5 : Int32) (y6 : Int64) (x8 : Int32) (z9 : Value), p_ev scr 134 128 [.ref 24, .int x1, .int x2, .int x3, .int x4, .int x5, .long y6, p_U, .int x8, z9, p_U] [] w = p_ev scr 134 130 [.ref 24, .int x1, .int x2, .int x3, .int x4, .int x5, .long y6, p_U, .int x8, z9, p_U] [.long y6] w) ∧
  (∀ (scr : pX) (w : pW) (x1 : Int32) (x2 : Int32) (x3 : Int32) (x4 : Int32) (x5 : Int32) (y6 : Int64) (x8 : Int32) (z9 : Value) (t0 : Int64), p_ev scr 134 130 [.ref 24, .int x1, .int x2, .int x3, .int x4, .int x5, .long y6, p_U, .int x8, z9, p_U] [.long t0] w = p_ev scr 134 131 [.ref 24, .int x1, .int x2, .int x3, .int x4, .int x5, .long y6, p_U, .int x8, z9, p_U] [.int x2, .long t0] w) ∧
  (∀ (scr : pX) (w : pW) (x1 : Int32) (x2 : Int32) (x3 : Int32) (x4 : Int32) (x5 : Int32) (y6 : Int64) (x8 : Int32) (z9 : Value) (s0 : Int32) (t1 : Int64), p_ev scr 134 131 [.ref 24, .int x1, .int x2, .int x3, .int x4, .int x5, .long y6, p_U, .int x8, z9, p_U] [.int s0, .long t1] w = p_ev scr 134 132 [.ref 24, .int x1, .int x2, .int x3, .int x4, .int x5, .long y6, p_U, .int x8, z9, p_U] [.long s0.toInt64, .long t1] w) ∧
  (∀ (scr : pX) (w : pW) (x1 : Int32) (x2 : Int32) (x3 : Int32) (x4 : Int32) (x5 : Int32) (y6 : Int64) (x8 : Int32) (z9 : Value) (t0 : Int64) (t1 : Int64), p_ev scr 134 132 [.ref 24, .int x1, .int x2, .int x3, .int x4, .int x5, .long y6, p_U, .int x8, z9, p_U] [.long t0, .long t1] w = p_ev scr 134 133 [.ref 24, .int x1, .int x2, .int x3, .int x4, .int x5, .long y6, p_U, .int x8, z9, p_U] [.long (t1 + t0)] w) ∧
  (∀ (scr : pX) (w : pW) (x1 : Int32) (x2 : Int32) (x3 : Int32) (x4 : Int32) (x5 : Int32) (y6 : Int64) (x8 : Int32) (z9 : Value) (t0 : Int64), p_ev scr 134 133 [.ref 24, .int x1, .int x2, .int x3, .int x4, .int x5, .long y6, p_U, .int x8, z9, p_U] [.long t0] w = p_ev scr 134 141 [.ref 24, .int x1, .int x2, .int x3, .int x4, .int x5, .long y6, p_U, .int x8, z9, p_U] [.long t0] w) ∧
  (∀ (scr : pX) (w : pW) (x1 : Int32) (x2 : Int32) (x3 : Int32) (x4 : Int32) (x5 : Int32) (y6 : Int64) (x8 : Int32) (z9 : Value), p_ev scr 134 136 [.ref 24, .int x1, .int x2, .int x3, .int x4, .int x5, .long y6, p_U, .int x8, z9, p_U] [] w = p_ev scr 134 138 [.ref 24, .int x1, .int x2, .int x3, .int x4, .int x5, .long y6, p_U, .int x8, z9, p_U] [.long y6] w) ∧
  (∀ (scr : pX) (w : pW) (x1 : Int32) (x2 : Int32) (x3 : Int32) (x4 : Int32) (x5 : Int32) (y6 : Int64) (x8 : Int32) (z9 : Value) (t0 : Int64), p_ev scr 134 138 [.ref 24, .int x1, .int x2, .int x3, .int x4, .int x5, .long y6, p_U, .int x8, z9, p_U] [.long t0] w = p_ev scr 134 139 [.ref 24, .int x1, .int x2, .int x3, .int x4, .int x5, .long y6, p_U, .int x8, z9, p_U] [.int x2, .long t0] w) ∧
  (∀ (scr : pX) (w : pW) (x1 : Int32) (x2 : Int32) (x3 : Int32) (x4 : Int32) (x5 : Int32) (y6 : Int64) (x8 : Int32) (z9 : Value) (s0 : Int32) (t1 : Int64), p_ev scr 134 139 [.ref 24, .int x1, .int x2, .int x3, .int x4, .int x5, .long y6, p_U, .int x8, z9, p_U] [.int s0, .long t1] w = p_ev scr 134 140 [.ref 24, .int x1, .int x2, .int x3, .int x4, .int x5, .long y6, p_U, .int x8, z9, p_U] [.long s0.toInt64, .long t1] w) ∧
  (∀ (scr : pX) (w : pW) (x1 : Int32) (x2 : Int32) (x3 : Int32) (x4 : Int32) (x5 : Int32) (y6 : Int64) (x8 : Int32) (z9 : Value) (t0 : Int64) (t1 : Int64), p_ev scr 134 140 [.ref 24, .int x1, .int x2, .int x3, .int x4, .int x5, .long y6, p_U, .int x8, z9, p_U] [.long t0, .long t1] w = p_ev scr 134 141 [.ref 24, .int x1, .int x2, .int x3, .int x4, .int x5, .long y6, p_U, .int x8, z9, p_U] [.long (t1 - t0)] w) ∧
  (∀ (scr : pX) (w : pW) (x1 : Int32) (x2 : Int32) (x3 : Int32) (x4 : Int32) (x5 : Int32) (y6 : Int64) (x8 : Int32) (z9 : Value) (t0 : Int64), p_ev scr 134 141 [.ref 24, .int x1, .int x2, .int x3, .int x4, .int x5, .long y6, p_U, .int x8, z9, p_U] [.long t0] w = p_ev scr 134 143 [.ref 24, .int x1, .int x2, .int x3, .int x4, .int x5, .long y6, p_U, .int x8, .long t0, p_U] [] w) ∧
  (∀ (scr : pX) (w : pW) (x1 : Int32) (x2 : Int32) (x3 : Int32) (x4 : Int32) (x5 : Int32) (y6 : Int64) (x8 : Int32) (y9 : Int64), p_ev scr 134 143 [.ref 24, .int x1, .int x2, .int x3, .int x4, .int x5, .long y6, p_U, .int x8, .long y9, p_U] [] w = p_ev scr 134 144 [.ref 24, .int x1, .int x2, .int x3, .int x4, .int x5, .long y6, p_U, .int x8, .long y9, p_U] [.ref 24] w) ∧
  (∀ (scr : pX) (w : pW) (x1 : Int32) (x2 : Int32) (x3 : Int32) (x4 : Int32) (x5 : Int32) (y6 : Int64) (x8 : Int32) (y9 : Int64), p_ev scr 134 144 [.ref 24, .int x1, .int x2, .int x3, .int x4, .int x5, .long y6, p_U, .int x8, .long y9, p_U] [.ref 24] w = p_ev scr 134 147 [.ref 24, .int x1, .int x2, .int x3, .int x4, .int x5, .long y6, p_U, .int x8, .long y9, p_U] [.ref 26] w) ∧
  (∀ (scr : pX) (w : pW) (x1 : Int32) (x2 : Int32) (x3 : Int32) (x4 : Int32) (x5 : Int32) (y6 : Int64) (x8 : Int32) (y9 : Int64), p_ev scr 134 147 [.ref 24, .int x1, .int x2, .int x3, .int x4, .int x5, .long y6, p_U, .int x8, .long y9, p_U] [.ref 26] w = p_ev scr 134 149 [.ref 24, .int x1, .int x2, .int x3, .int x4, .int x5, .long y6, p_U, .int x8, .long y9, p_U] [.int (nI 32), .ref 26] w) ∧
  (∀ (scr : pX) (w : pW) (x1 : Int32) (x2 : Int32) (x3 : Int32) (x4 : Int32) (x5 : Int32) (y6 : Int64) (x8 : Int32) (y9 : Int64) (s0 : Int32), p_ev scr 134 149 [.ref 24, .int x1, .int x2, .int x3, .int x4, .int x5, .long y6, p_U, .int x8, .long y9, p_U] [.int s0, .ref 26] w = p_ev scr 134 150 [.ref 24, .int x1, .int x2, .int x3, .int x4, .int x5, .long y6, p_U, .int x8, .long y9, p_U] [.int x1, .int s0, .ref 26] w) ∧
  (∀ (scr : pX) (w : pW) (x1 : Int32) (x2 : Int32) (x3 : Int32) (x4 : Int32) (x5 : Int32) (y6 : Int64) (x8 : Int32) (y9 : Int64) (s0 : Int32) (s1 : Int32), p_ev scr 134 150 [.ref 24, .int x1, .int x2, .int x3, .int x4, .int x5, .long y6, p_U, .int x8, .long y9, p_U] [.int s0, .int s1, .ref 26] w = p_ev scr 134 151 [.ref 24, .int x1, .int x2, .int x3, .int x4, .int x5, .long y6, p_U, .int x8, .long y9, p_U] [.int (s1 * s0), .ref 26] w) ∧
  (∀ (scr : pX) (w : pW) (x1 : Int32) (x2 : Int32) (x3 : Int32) (x4 : Int32) (x5 : Int32) (y6 : Int64) (x8 : Int32) (y9 : Int64) (s0 : Int32), p_ev scr 134 151 [.ref 24, .int x1, .int x2, .int x3, .int x4, .int x5, .long y6, p_U, .int x8, .long y9, p_U] [.int s0, .ref 26] w = p_ev scr 134 153 [.ref 24, .int x1, .int x2, .int x3, .int x4, .int x5, .long y6, p_U, .int x8, .long y9, p_U] [.int x5, .int s0, .ref 26] w) ∧
  (∀ (scr : pX) (w : pW) (x1 : Int32) (x2 : Int32) (x3 : Int32) (x4 : Int32) (x5 : Int32) (y6 : Int64) (x8 : Int32) (y9 : Int64) (s0 : Int32) (s1 : Int32), p_ev scr 134 153 [.ref 24, .int x1, .int x2, .int x3, .int x4, .int x5, .long y6, p_U, .int x8, .long y9, p_U] [.int s0, .int s1, .ref 26] w = p_ev scr 134 154 [.ref 24, .int x1, .int x2, .int x3, .int x4, .int x5, .long y6, p_U, .int x8, .long y9, p_U] [.int (s1 + s0), .ref 26] w) ∧
  (∀ (scr : pX) (w : pW) (x1 : Int32) (x2 : Int32) (x3 : Int32) (x4 : Int32) (x5 : Int32) (y6 : Int64) (x8 : Int32) (y9 : Int64) (s0 : Int32), p_ev scr 134 154 [.ref 24, .int x1, .int x2, .int x3, .int x4, .int x5, .long y6, p_U, .int x8, .long y9, p_U] [.int s0, .ref 26] w = p_ev scr 134 156 [.ref 24, .int x1, .int x2, .int x3, .int x4, .int x5, .long y6, p_U, .int x8, .long y9, p_U] [.int x8, .int s0, .ref 26] w) ∧
  (∀ (scr : pX) (w : pW) (x1 : Int32) (x2 : Int32) (x3 : Int32) (x4 : Int32) (x5 : Int32) (y6 : Int64) (x8 : Int32) (y9 : Int64) (s0 : Int32) (s1 : Int32), p_ev scr 134 156 [.ref 24, .int x1, .int x2, .int x3, .int x4, .int x5, .long y6, p_U, .int x8, .long y9, p_U] [.int s0, .int s1, .ref 26] w = if s0 = nI 0 then p_ev scr 134 163 [.ref 24, .int x1, .int x2, .int x3, .int x4, .int x5, .long y6, p_U, .int x8, .long y9, p_U] [.int s1, .ref 26] w else p_ev scr 134 159 [.ref 24, .int x1, .int x2, .int x3, .int x4, .int x5, .long y6, p_U, .int x8, .long y9, p_U] [.int s1, .ref 26] w) ∧
  (∀ (scr : pX) (w : pW) (x1 : Int32) (x2 : Int32) (x3 : Int32) (x4 : Int32) (x5 : Int32) (y6 : Int64) (x8 : Int32) (y9 : Int64) (s0 : Int32), p_ev scr 134 159 [.ref 24, .int x1, .int x2, .int x3, .int x4, .int x5, .long y6, p_U, .int x8, .long y9, p_U] [.int s0, .ref 26] w = p_ev scr 134 160 [.ref 24, .int x1, .int x2, .int x3, .int x4, .int x5, .long y6, p_U, .int x8, .long y9, p_U] [.long (lN 0), .int s0, .ref 26] w) ∧
  (∀ (scr : pX) (w : pW) (x1 : Int32) (x2 : Int32) (x3 : Int32) (x4 : Int32) (x5 : Int32) (y6 : Int64) (x8 : Int32) (y9 : Int64) (t0 : Int64) (s1 : Int32), p_ev scr 134 160 [.ref 24, .int x1, .int x2, .int x3, .int x4, .int x5, .long y6, p_U, .int x8, .long y9, p_U] [.long t0, .int s1, .ref 26] w = p_ev scr 134 174 [.ref 24, .int x1, .int x2, .int x3, .int x4, .int x5, .long y6, p_U, .int x8, .long y9, p_U] [.long t0, .int s1, .ref 26] w) ∧
  (∀ (scr : pX) (w : pW) (x1 : Int32) (x2 : Int32) (x3 : Int32) (x4 : Int32) (x5 : Int32) (y6 : Int64) (x8 : Int32) (y9 : Int64) (s0 : Int32), p_ev scr 134 163 [.ref 24, .int x1, .int x2, .int x3, .int x4, .int x5, .long y6, p_U, .int x8, .long y9, p_U] [.int s0, .ref 26] w = p_ev scr 134 164 [.ref 24, .int x1, .int x2, .int x3, .int x4, .int x5, .long y6, p_U, .int x8, .long y9, p_U] [.int x3, .int s0, .ref 26] w) ∧
  (∀ (scr : pX) (w : pW) (x1 : Int32) (x2 : Int32) (x3 : Int32) (x4 : Int32) (x5 : Int32) (y6 : Int64) (x8 : Int32) (y9 : Int64) (s0 : Int32) (s1 : Int32), p_ev scr 134 164 [.ref 24, .int x1, .int x2, .int x3, .int x4, .int x5, .long y6, p_U, .int x8, .long y9, p_U] [.int s0, .int s1, .ref 26] w = if s0 = nI 0 then p_ev scr 134 172 [.ref 24, .int x1, .int x2, .int x3, .int x4, .int x5, .long y6, p_U, .int x8, .long y9, p_U] [.int s1, .ref 26] w else p_ev scr 134 167 [.ref 24, .int x1, .int x2, .int x3, .int x4, .int x5, .long y6, p_U, .int x8, .long y9, p_U] [.int s1, .ref 26] w) ∧
  (∀ (scr : pX) (w : pW) (x1 : Int32) (x2 : Int32) (x3 : Int32) (x4 : Int32) (x5 : Int32) (y6 : Int64) (x8 : Int32) (y9 : Int64) (s0 : Int32), p_ev scr 134 167 [.ref 24, .int x1, .int x2, .int x3, .int x4, .int x5, .long y6, p_U, .int x8, .long y9, p_U] [.int s0, .ref 26] w = p_ev scr 134 169 [.ref 24, .int x1, .int x2, .int x3, .int x4, .int x5, .long y6, p_U, .int x8, .long y9, p_U] [.long y9, .int s0, .ref 26] w) ∧
  (∀ (scr : pX) (w : pW) (x1 : Int32) (x2 : Int32) (x3 : Int32) (x4 : Int32) (x5 : Int32) (y6 : Int64) (x8 : Int32) (y9 : Int64) (t0 : Int64) (s1 : Int32), p_ev scr 134 169 [.ref 24, .int x1, .int x2, .int x3, .int x4, .int x5, .long y6, p_U, .int x8, .long y9, p_U] [.long t0, .int s1, .ref 26] w = p_ev scr 134 174 [.ref 24, .int x1, .int x2, .int x3, .int x4, .int x5, .long y6, p_U, .int x8, .long y9, p_U] [.long t0, .int s1, .ref 26] w) ∧
  (∀ (scr : pX) (w : pW) (x1 : Int32) (x2 : Int32) (x3 : Int32) (x4 : Int32) (x5 : Int32) (y6 : Int64) (x8 : Int32) (y9 : Int64) (s0 : Int32), p_ev scr 134 172 [.ref 24, .int x1, .int x2, .int x3, .int x4, .int x5, .long y6, p_U, .int x8, .long y9, p_U] [.int s0, .ref 26] w = p_ev scr 134 174 [.ref 24, .int x1, .int x2, .int x3, .int x4, .int x5, .long y6, p_U, .int x8, .long y9, p_U] [.long y6, .int s0, .ref 26] w) ∧
  (∀ (scr : pX) (w : pW) (x1 : Int32) (x2 : Int32) (x3 : Int32) (x4 : Int32) (x5 : Int32) (y6 : Int64) (x8 : Int32) (y9 : Int64) (t0 : Int64) (s1 : Int32), p_out s1 512 = false → p_ev scr 134 174 [.ref 24, .int x1, .int x2, .int x3, .int x4, .int x5, .long y6, p_U, .int x8, .long y9, p_U] [.long t0, .int s1, .ref 26] w = p_ev scr 134 175 [.ref 24, .int x1, .int x2, .int x3, .int x4, .int x5, .long y6, p_U, .int x8, .long y9, p_U] [] (w.1, p_u w.2.1 26 s1.toNatClampNeg t0, w.2.2)) ∧
  (∀ (scr : pX) (w : pW) (x1 : Int32) (x2 : Int32) (x3 : Int32) (x4 : Int32) (x5 : Int32) (y6 : Int64) (x8 : Int32) (y9 : Int64), p_ev scr 134 175 [.ref 24, .int x1, .int x2, .int x3, .int x4, .int x5, .long y6, p_U, .int x8, .long y9, p_U] [] w = p_ev scr 134 178 [.ref 24, .int x1, .int x2, .int x3, .int x4, .int (x5 + (nI 1)), .long y6, p_U, .int x8, .long y9, p_U] [] w) ∧
  (∀ (scr : pX) (w : pW) (x1 : Int32) (x2 : Int32) (x3 : Int32) (x4 : Int32) (x5 : Int32) (y6 : Int64) (x8 : Int32) (y9 : Int64), p_ev scr 134 178 [.ref 24, .int x1, .int x2, .int x3, .int x4, .int x5, .long y6, p_U, .int x8, .long y9, p_U] [] w = p_ev scr 134 57 [.ref 24, .int x1, .int x2, .int x3, .int x4, .int x5, .long y6, p_U, .int x8, .long y9, p_U] [] w) ∧
  (∀ (scr : pX) (w : pW) (x1 : Int32) (x2 : Int32) (x3 : Int32) (x4 : Int32) (x5 : Int32) (z6 : Value) (z8 : Value) (z9 : Value), p_ev scr 134 181 [.ref 24, .int x1, .int x2, .int x3, .int x4, .int x5, z6, p_U, z8, z9, p_U] [] w = p_ev scr 134 183 [.ref 24, .int x1, .int x2, .int x3, .int x4, .int x5, z6, p_U, z8, z9, p_U] [.int x4] w) ∧
  (∀ (scr : pX) (w : pW) (x1 : Int32) (x2 : Int32) (x3 : Int32) (x4 : Int32) (x5 : Int32) (z6 : Value) (z8 : Value) (z9 : Value) (s0 : Int32), p_ev scr 134 183 [.ref 24, .int x1, .int x2, .int x3, .int x4, .int x5, z6, p_U, z8, z9, p_U] [.int s0] w = some (.inl (some (.int s0)), w, 0)) :=
  ⟨fun _ _ _ _ _ => p_r (by decide +kernel : p_at 134 0 = some (.aload_n 0)) rfl,
  fun _ _ _ _ _ => p_r (by decide +kernel : p_at 134 1 = some (.iconst 0)) rfl,
  fun _ _ _ _ _ _ => p_rpf (by decide +kernel : p_at 134 2 = some (.putfield 63)) (by decide +kernel : p_fld (p_own 134) 63 = some (5, 4)) (rfl : p_ob 24 = some (.inr (5, [some 25, some 26, none, none, none, some 27, some 28, some 29, some 30, some 31, some 32, some 33, some 34, some 35, some 36, some 37, some 38, some 39, none, none, some 40]))) rfl,
  fun _ _ _ _ _ => p_r (by decide +kernel : p_at 134 5 = some (.aload_n 0)) rfl,
  fun _ _ _ _ _ => p_r (by decide +kernel : p_at 134 6 = some (.iload_n 1)) rfl,
  fun _ _ _ _ _ _ => p_rcv (nl := 2) (by decide +kernel : p_at 134 7 = some (.invokevirtual 135)) (by decide +kernel : p_inv (p_own 134) 135 = some (1, 102, 2)) (by decide +kernel) (rfl : p_ob 24 = some (.inr (5, [some 25, some 26, none, none, none, some 27, some 28, some 29, some 30, some 31, some 32, some 33, some 34, some 35, some 36, some 37, some 38, some 39, none, none, some 40]))) rfl rfl (Nat.le_of_ble_eq_true rfl) (Nat.le_of_ble_eq_true rfl) (Nat.le_of_ble_eq_true rfl) rfl,
  fun _ _ _ _ _ _ => p_rb1 (c := fun x => decide (¬ x = 0)) (off := 9) (by decide +kernel : p_at 134 10 = some (.ifCond .ne 9)) (by decide +kernel) rfl rfl rfl,
  fun _ _ _ _ _ => p_r (by decide +kernel : p_at 134 13 = some (.aload_n 0)) rfl,
  fun _ _ _ _ _ => p_r (by decide +kernel : p_at 134 14 = some (.iconst 1)) rfl,
  fun _ _ _ _ _ _ => p_rcv (nl := 2) (by decide +kernel : p_at 134 15 = some (.invokevirtual 76)) (by decide +kernel : p_inv (p_own 134) 76 = some (1, 96, 2)) (by decide +kernel) (rfl : p_ob 24 = some (.inr (5, [some 25, some 26, none, none, none, some 27, some 28, some 29, some 30, some 31, some 32, some 33, some 34, some 35, some 36, some 37, some 38, some 39, none, none, some 40]))) rfl rfl (Nat.le_of_ble_eq_true rfl) (Nat.le_of_ble_eq_true rfl) (Nat.le_of_ble_eq_true rfl) rfl,
  fun _ _ _ _ _ _ => p_riret (by decide +kernel : p_at 134 18 = some (.ireturn)) (by decide +kernel),
  fun _ _ _ _ _ => p_r (by decide +kernel : p_at 134 19 = some (.iload_n 2)) rfl,
  fun _ _ _ _ _ _ => p_r (by decide +kernel : p_at 134 20 = some (.iconst 0)) rfl,
  fun _ _ _ _ _ _ _ => p_rldcI (by decide +kernel : p_at 134 21 = some (.ldc 161)) (by decide +kernel),
  fun _ _ _ _ _ _ _ _ => p_rcs (nl := 3) (by decide +kernel : p_at 134 23 = some (.invokestatic 72)) (by decide +kernel : p_inv (p_own 134) 72 = some (1, 97, 3)) (by decide +kernel) rfl rfl (Nat.le_of_ble_eq_true rfl) (Nat.le_of_ble_eq_true rfl) (Nat.le_of_ble_eq_true rfl) rfl,
  fun _ _ _ _ _ _ => p_rb1 (c := fun x => decide (¬ x = 0)) (off := 9) (by decide +kernel : p_at 134 26 = some (.ifCond .ne 9)) (by decide +kernel) rfl rfl rfl,
  fun _ _ _ _ _ => p_r (by decide +kernel : p_at 134 29 = some (.aload_n 0)) rfl,
  fun _ _ _ _ _ => p_r (by decide +kernel : p_at 134 30 = some (.iconst 2)) rfl,
  fun _ _ _ _ _ _ => p_rcv (nl := 2) (by decide +kernel : p_at 134 31 = some (.invokevirtual 76)) (by decide +kernel : p_inv (p_own 134) 76 = some (1, 96, 2)) (by decide +kernel) (rfl : p_ob 24 = some (.inr (5, [some 25, some 26, none, none, none, some 27, some 28, some 29, some 30, some 31, some 32, some 33, some 34, some 35, some 36, some 37, some 38, some 39, none, none, some 40]))) rfl rfl (Nat.le_of_ble_eq_true rfl) (Nat.le_of_ble_eq_true rfl) (Nat.le_of_ble_eq_true rfl) rfl,
  fun _ _ _ _ _ _ => p_riret (by decide +kernel : p_at 134 34 = some (.ireturn)) (by decide +kernel),
  fun _ _ _ _ _ => p_r (by decide +kernel : p_at 134 35 = some (.aload_n 0)) rfl,
  fun _ _ _ _ _ => p_rgf (f := some 25) (by decide +kernel : p_at 134 36 = some (.getfield 7)) (by decide +kernel : p_fld (p_own 134) 7 = some (5, 0)) (rfl : p_ob 24 = some (.inr (5, [some 25, some 26, none, none, none, some 27, some 28, some 29, some 30, some 31, some 32, some 33, some 34, some 35, some 36, some 37, some 38, some 39, none, none, some 40]))) rfl,
  fun _ _ _ _ _ => p_r (by decide +kernel : p_at 134 39 = some (.iload_n 1)) rfl,
  fun _ _ _ _ _ _ hp => p_riald (by decide +kernel : p_at 134 40 = some (.iaload)) (rfl : p_ob 25 = some (.inl (1, 16))) hp,
  fun _ _ _ _ _ _ => p_r (by decide +kernel : p_at 134 41 = some (.iconst 1)) rfl,
  fun _ _ _ _ _ _ _ => p_rb2 (c := fun x y => decide (x = y)) (off := 9) (by decide +kernel : p_at 134 42 = some (.if_icmp .eq 9)) (by decide +kernel) rfl rfl rfl,
  fun _ _ _ _ _ => p_r (by decide +kernel : p_at 134 45 = some (.aload_n 0)) rfl,
  fun _ _ _ _ _ => p_r (by decide +kernel : p_at 134 46 = some (.iconst 3)) rfl,
  fun _ _ _ _ _ _ => p_rcv (nl := 2) (by decide +kernel : p_at 134 47 = some (.invokevirtual 76)) (by decide +kernel : p_inv (p_own 134) 76 = some (1, 96, 2)) (by decide +kernel) (rfl : p_ob 24 = some (.inr (5, [some 25, some 26, none, none, none, some 27, some 28, some 29, some 30, some 31, some 32, some 33, some 34, some 35, some 36, some 37, some 38, some 39, none, none, some 40]))) rfl rfl (Nat.le_of_ble_eq_true rfl) (Nat.le_of_ble_eq_true rfl) (Nat.le_of_ble_eq_true rfl) rfl,
  fun _ _ _ _ _ _ => p_riret (by decide +kernel : p_at 134 50 = some (.ireturn)) (by decide +kernel),
  fun _ _ _ _ _ => p_r (by decide +kernel : p_at 134 51 = some (.iconst 0)) rfl,
  fun _ _ _ _ _ _ => p_r (by decide +kernel : p_at 134 52 = some (.istore 4)) rfl,
  fun _ _ _ _ _ _ => p_r (by decide +kernel : p_at 134 54 = some (.iconst 0)) rfl,
  fun _ _ _ _ _ _ _ => p_r (by decide +kernel : p_at 134 55 = some (.istore 5)) rfl,
  fun _ _ _ _ _ _ _ _ _ _ _ => p_r (by decide +kernel : p_at 134 59 = some (.aload_n 0)) rfl,
  fun _ _ _ _ _ _ _ _ _ _ _ => p_r (by decide +kernel : p_at 134 60 = some (.iload_n 1)) rfl,
  fun _ _ _ _ _ _ _ _ _ _ _ _ => p_rcv (nl := 4) (by decide +kernel : p_at 134 61 = some (.invokevirtual 113)) (by decide +kernel : p_inv (p_own 134) 113 = some (1, 101, 2)) (by decide +kernel) (rfl : p_ob 24 = some (.inr (5, [some 25, some 26, none, none, none, some 27, some 28, some 29, some 30, some 31, some 32, some 33, some 34, some 35, some 36, some 37, some 38, some 39, none, none, some 40]))) rfl rfl (Nat.le_of_ble_eq_true rfl) (Nat.le_of_ble_eq_true rfl) (Nat.le_of_ble_eq_true rfl) rfl,
  fun _ _ _ _ _ _ _ _ _ _ _ _ => p_rb2 (c := fun x y => decide (y ≤ x)) (off := 117) (by decide +kernel : p_at 134 64 = some (.if_icmp .ge 117)) (by decide +kernel) rfl rfl rfl,
  fun _ _ _ _ _ _ _ _ _ _ => p_r (by decide +kernel : p_at 134 67 = some (.aload_n 0)) rfl,
  fun _ _ _ _ _ _ _ _ _ _ => p_rgf (f := some 26) (by decide +kernel : p_at 134 68 = some (.getfield 13)) (by decide +kernel : p_fld (p_own 134) 13 = some (5, 1)) (rfl : p_ob 24 = some (.inr (5, [some 25, some 26, none, none, none, some 27, some 28, some 29, some 30, some 31, some 32, some 33, some 34, some 35, some 36, some 37, some 38, some 39, none, none, some 40]))) rfl,
  fun _ _ _ _ _ _ _ _ _ _ => p_r (by decide +kernel : p_at 134 71 = some (.bipush 32)) rfl,
  fun _ _ _ _ _ _ _ _ _ _ _ => p_r (by decide +kernel : p_at 134 73 = some (.iload_n 1)) rfl,
  fun _ _ _ _ _ _ _ _ _ _ _ _ => p_r (by decide +kernel : p_at 134 74 = some (.imul)) rfl,
  fun _ _ _ _ _ _ _ _ _ _ _ => p_r (by decide +kernel : p_at 134 75 = some (.iload 5)) rfl,
  fun _ _ _ _ _ _ _ _ _ _ _ _ => p_r (by decide +kernel : p_at 134 77 = some (.iadd)) rfl,
  fun _ _ _ _ _ _ _ _ _ _ _ hp => p_rlald (by decide +kernel : p_at 134 78 = some (.laload)) (rfl : p_ob 26 = some (.inl (2, 512))) hp,
  fun _ _ _ _ _ _ _ _ _ _ _ => p_r (by decide +kernel : p_at 134 79 = some (.lstore 6)) rfl,
  fun _ _ _ _ _ _ _ _ _ _ => p_r (by decide +kernel : p_at 134 81 = some (.lload 6)) rfl,
  fun _ _ _ _ _ _ _ _ _ _ _ => p_rcs (nl := 2) (by decide +kernel : p_at 134 83 = some (.invokestatic 66)) (by decide +kernel : p_inv (p_own 134) 66 = some (1, 98, 1)) (by decide +kernel) rfl rfl (Nat.le_of_ble_eq_true rfl) (Nat.le_of_ble_eq_true rfl) (Nat.le_of_ble_eq_true rfl) rfl,
  fun _ _ _ _ _ _ _ _ _ _ _ => p_r (by decide +kernel : p_at 134 86 = some (.iload_n 2)) rfl,
  fun _ _ _ _ _ _ _ _ _ _ _ _ => p_r (by decide +kernel : p_at 134 87 = some (.i2l)) rfl,
  fun _ _ _ _ _ _ _ _ _ _ _ _ => p_r (by decide +kernel : p_at 134 88 = some (.lcmp)) rfl,
  fun _ _ _ _ _ _ _ _ _ _ _ => p_rb1 (c := fun x => decide (0 < x)) (off := 7) (by decide +kernel : p_at 134 89 = some (.ifCond .gt 7)) (by decide +kernel) rfl rfl rfl,
  fun _ _ _ _ _ _ _ _ _ _ => p_r (by decide +kernel : p_at 134 92 = some (.iconst 1)) rfl,
  fun _ _ _ _ _ _ _ _ _ _ _ => p_rgo (by decide +kernel : p_at 134 93 = some (.goto 4)) (by decide +kernel),
  fun _ _ _ _ _ _ _ _ _ _ => p_r (by decide +kernel : p_at 134 96 = some (.iconst 0)) rfl,
  fun _ _ _ _ _ _ _ _ _ _ _ => p_r (by decide +kernel : p_at 134 97 = some (.istore 8)) rfl,
  fun _ _ _ _ _ _ _ _ _ _ => p_r (by decide +kernel : p_at 134 99 = some (.iload 4)) rfl,
  fun _ _ _ _ _ _ _ _ _ _ _ => p_r (by decide +kernel : p_at 134 101 = some (.iload 8)) rfl,
  fun _ _ _ _ _ _ _ _ _ _ _ _ => p_rb1 (c := fun x => decide (x = 0)) (off := 14) (by decide +kernel : p_at 134 103 = some (.ifCond .eq 14)) (by decide +kernel) rfl rfl rfl,
  fun _ _ _ _ _ _ _ _ _ _ _ => p_r (by decide +kernel : p_at 134 106 = some (.lload 6)) rfl,
  fun _ _ _ _ _ _ _ _ _ _ _ _ => p_r (by decide +kernel : p_at 134 108 = some (.lconst 0)) rfl,
  fun _ _ _ _ _ _ _ _ _ _ _ _ _ => p_r (by decide +kernel : p_at 134 109 = some (.lcmp)) rfl,
  fun _ _ _ _ _ _ _ _ _ _ _ _ => p_rb1 (c := fun x => decide (x = 0)) (off := 7) (by decide +kernel : p_at 134 110 = some (.ifCond .eq 7)) (by decide +kernel) rfl rfl rfl,
  fun _ _ _ _ _ _ _ _ _ _ _ => p_r (by decide +kernel : p_at 134 113 = some (.iconst 1)) rfl,
  fun _ _ _ _ _ _ _ _ _ _ _ _ => p_rgo (by decide +kernel : p_at 134 114 = some (.goto 4)) (by decide +kernel),
  fun _ _ _ _ _ _ _ _ _ _ _ => p_r (by decide +kernel : p_at 134 117 = some (.iconst 0)) rfl,
  fun _ _ _ _ _ _ _ _ _ _ _ _ => p_r (by decide +kernel : p_at 134 118 = some (.iadd)) rfl,
  fun _ _ _ _ _ _ _ _ _ _ _ => p_r (by decide +kernel : p_at 134 119 = some (.istore 4)) rfl,
  fun _ _ _ _ _ _ _ _ _ _ => p_r (by decide +kernel : p_at 134 121 = some (.lload 6)) rfl,
  fun _ _ _ _ _ _ _ _ _ _ _ => p_r (by decide +kernel : p_at 134 123 = some (.lconst 0)) rfl,
  fun _ _ _ _ _ _ _ _ _ _ _ _ => p_r (by decide +kernel : p_at 134 124 = some (.lcmp)) rfl,
  fun _ _ _ _ _ _ _ _ _ _ _ => p_rb1 (c := fun x => decide (0 ≤ x)) (off := 11) (by decide +kernel : p_at 134 125 = some (.ifCond .ge 11)) (by decide +kernel) rfl rfl rfl,
  fun _ _ _ _ _ _ _ _ _ _ => p_r (by decide +kernel : p_at 134 128 = some (.lload 6)) rfl,
  fun _ _ _ _ _ _ _ _ _ _ _ => p_r (by decide +kernel : p_at 134 130 = some (.iload_n 2)) rfl,
  fun _ _ _ _ _ _ _ _ _ _ _ _ => p_r (by decide +kernel : p_at 134 131 = some (.i2l)) rfl,
  fun _ _ _ _ _ _ _ _ _ _ _ _ => p_r (by decide +kernel : p_at 134 132 = some (.ladd)) rfl,
  fun _ _ _ _ _ _ _ _ _ _ _ => p_rgo (by decide +kernel : p_at 134 133 = some (.goto 8)) (by decide +kernel),
  fun _ _ _ _ _ _ _ _ _ _ => p_r (by decide +kernel : p_at 134 136 = some (.lload 6)) rfl,
  fun _ _ _ _ _ _ _ _ _ _ _ => p_r (by decide +kernel : p_at 134 138 = some (.iload_n 2)) rfl,
  fun _ _ _ _ _ _ _ _ _ _ _ _ => p_r (by decide +kernel : p_at 134 139 = some (.i2l)) rfl,
  fun _ _ _ _ _ _ _ _ _ _ _ _ => p_r (by decide +kernel : p_at 134 140 = some (.lsub)) rfl,
  fun _ _ _ _ _ _ _ _ _ _ _ => p_r (by decide +kernel : p_at 134 141 = some (.lstore 9)) rfl,
  fun _ _ _ _ _ _ _ _ _ _ => p_r (by decide +kernel : p_at 134 143 = some (.aload_n 0)) rfl,
  fun _ _ _ _ _ _ _ _ _ _ => p_rgf (f := some 26) (by decide +kernel : p_at 134 144 = some (.getfield 13)) (by decide +kernel : p_fld (p_own 134) 13 = some (5, 1)) (rfl : p_ob 24 = some (.inr (5, [some 25, some 26, none, none, none, some 27, some 28, some 29, some 30, some 31, some 32, some 33, some 34, some 35, some 36, some 37, some 38, some 39, none, none, some 40]))) rfl,
  fun _ _ _ _ _ _ _ _ _ _ => p_r (by decide +kernel : p_at 134 147 = some (.bipush 32)) rfl,
  fun _ _ _ _ _ _ _ _ _ _ _ => p_r (by decide +kernel : p_at 134 149 = some (.iload_n 1)) rfl,
  fun _ _ _ _ _ _ _ _ _ _ _ _ => p_r (by decide +kernel : p_at 134 150 = some (.imul)) rfl,
  fun _ _ _ _ _ _ _ _ _ _ _ => p_r (by decide +kernel : p_at 134 151 = some (.iload 5)) rfl,
  fun _ _ _ _ _ _ _ _ _ _ _ _ => p_r (by decide +kernel : p_at 134 153 = some (.iadd)) rfl,
  fun _ _ _ _ _ _ _ _ _ _ _ => p_r (by decide +kernel : p_at 134 154 = some (.iload 8)) rfl,
  fun _ _ _ _ _ _ _ _ _ _ _ _ => p_rb1 (c := fun x => decide (x = 0)) (off := 7) (by decide +kernel : p_at 134 156 = some (.ifCond .eq 7)) (by decide +kernel) rfl rfl rfl,
  fun _ _ _ _ _ _ _ _ _ _ _ => p_r (by decide +kernel : p_at 134 159 = some (.lconst 0)) rfl,
  fun _ _ _ _ _ _ _ _ _ _ _ _ => p_rgo (by decide +kernel : p_at 134 160 = some (.goto 14)) (by decide +kernel),
  fun _ _ _ _ _ _ _ _ _ _ _ => p_r (by decide +kernel : p_at 134 163 = some (.iload_n 3)) rfl,
  fun _ _ _ _ _ _ _ _ _ _ _ _ => p_rb1 (c := fun x => decide (x = 0)) (off := 8) (by decide +kernel : p_at 134 164 = some (.ifCond .eq 8)) (by decide +kernel) rfl rfl rfl,
  fun _ _ _ _ _ _ _ _ _ _ _ => p_r (by decide +kernel : p_at 134 167 = some (.lload 9)) rfl,
  fun _ _ _ _ _ _ _ _ _ _ _ _ => p_rgo (by decide +kernel : p_at 134 169 = some (.goto 5)) (by decide +kernel),
  fun _ _ _ _ _ _ _ _ _ _ _ => p_r (by decide +kernel : p_at 134 172 = some (.lload 6)) rfl,
  fun _ _ _ _ _ _ _ _ _ _ _ _ hp => p_rlast (by decide +kernel : p_at 134 174 = some (.lastore)) (rfl : p_ob 26 = some (.inl (2, 512))) hp,
  fun _ _ _ _ _ _ _ _ _ _ => p_r (by decide +kernel : p_at 134 175 = some (.iinc 5 1)) rfl,
  fun _ _ _ _ _ _ _ _ _ _ => p_rgo (by decide +kernel : p_at 134 178 = some (.goto (-121))) (by decide +kernel),
  fun _ _ _ _ _ _ _ _ _ _ => p_r (by decide +kernel : p_at 134 181 = some (.iload 4)) rfl,
  fun _ _ _ _ _ _ _ _ _ _ _ => p_riret (by decide +kernel : p_at 134 183 = some (.ireturn)) (by decide +kernel)⟩
theorem H134_57 :
  (∀ (scr : pX) (w : pW) (x1 : Int32) (x2 : Int32) (x3 : Int32) (x4 : Int32) (x5 : Int32) (z6 : Value) (z8 : Value) (z9 : Value), p_ev scr 134 57 [.ref 24, .int x1, .int x2, .int x3, .int x4, .int x5, z6, p_U, z8, z9, p_U] [] w = p_ev scr 134 59 [.ref 24, .int x1, .int x2, .int x3, .int x4, .int x5, z6, p_U, z8, z9, p_U] [.int x5] w) :=
  fun _ _ _ _ _ _ _ _ _ _ => p_r (by decide +kernel : p_at 134 57 = some (.iload 5)) rfl
-- 135: hard
theorem M135 :
  (∀ (scr : pX) (w : pW) (x1 : Int32) (x2 : Int32), p_ev scr 135 0 [.ref 24, .int x1, .int x2] [] w = p_ev scr 135 1 [.ref 24, .int x1, .int x2] [.ref 24] w) ∧
  (∀ (scr : pX) (w : pW) (x1 : Int32) (x2 : Int32), p_ev scr 135 1 [.ref 24, .int x1, .int x2] [.ref 24] w = p_ev scr 135 2 [.ref 24, .int x1, .int x2] [.int x1, .ref 24] w) ∧
  (∀ (scr : pX) (w : pW) (x1 : Int32) (x2 : Int32) (s0 : Int32), p_ev scr 135 2 [.ref 24, .int x1, .int x2] [.int s0, .ref 24] w = p_ev scr 135 3 [.ref 24, .int x1, .int x2] [.int x2, .int s0, .ref 24] w) ∧
  (∀ (scr : pX) (w : pW) (x1 : Int32) (x2 : Int32) (s0 : Int32) (s1 : Int32), p_ev scr 135 3 [.ref 24, .int x1, .int x2] [.int s0, .int s1, .ref 24] w = p_ev scr 135 4 [.ref 24, .int x1, .int x2] [.int (nI 0), .int s0, .int s1, .ref 24] w) ∧
  (∀ (scr : pX) (w : pW) (x1 : Int32) (x2 : Int32) (s0 : Int32) (s1 : Int32) (s2 : Int32), p_ev scr 135 4 [.ref 24, .int x1, .int x2] [.int s0, .int s1, .int s2, .ref 24] w = p_bnd scr 135 4 7 [.ref 24, .int x1, .int x2] [] (p_ev none 134 0 [.ref 24, .int s2, .int s1, .int s0, p_U, p_U, p_U, p_U, p_U, p_U, p_U] [] w)) ∧
  (∀ (scr : pX) (w : pW) (x1 : Int32) (x2 : Int32) (s0 : Int32), p_ev scr 135 7 [.ref 24, .int x1, .int x2] [.int s0] w = some (.inl (some (.int s0)), w, 0)) :=
  ⟨fun _ _ _ _ => p_r (by decide +kernel : p_at 135 0 = some (.aload_n 0)) rfl,
  fun _ _ _ _ => p_r (by decide +kernel : p_at 135 1 = some (.iload_n 1)) rfl,
  fun _ _ _ _ _ => p_r (by decide +kernel : p_at 135 2 = some (.iload_n 2)) rfl,
  fun _ _ _ _ _ _ => p_r (by decide +kernel : p_at 135 3 = some (.iconst 0)) rfl,
  fun _ _ _ _ _ _ _ => p_rcv (nl := 11) (by decide +kernel : p_at 135 4 = some (.invokevirtual 162)) (by decide +kernel : p_inv (p_own 135) 162 = some (1, 134, 4)) (by decide +kernel) (rfl : p_ob 24 = some (.inr (5, [some 25, some 26, none, none, none, some 27, some 28, some 29, some 30, some 31, some 32, some 33, some 34, some 35, some 36, some 37, some 38, some 39, none, none, some 40]))) rfl rfl (Nat.le_of_ble_eq_true rfl) (Nat.le_of_ble_eq_true rfl) (Nat.le_of_ble_eq_true rfl) rfl,
  fun _ _ _ _ _ => p_riret (by decide +kernel : p_at 135 7 = some (.ireturn)) (by decide +kernel)⟩
-- 136: soft
theorem M136 :
  (∀ (scr : pX) (w : pW) (x1 : Int32) (x2 : Int32), p_ev scr 136 0 [.ref 24, .int x1, .int x2] [] w = p_ev scr 136 1 [.ref 24, .int x1, .int x2] [.ref 24] w) ∧
  (∀ (scr : pX) (w : pW) (x1 : Int32) (x2 : Int32), p_ev scr 136 1 [.ref 24, .int x1, .int x2] [.ref 24] w = p_ev scr 136 2 [.ref 24, .int x1, .int x2] [.int x1, .ref 24] w) ∧
  (∀ (scr : pX) (w : pW) (x1 : Int32) (x2 : Int32) (s0 : Int32), p_ev scr 136 2 [.ref 24, .int x1, .int x2] [.int s0, .ref 24] w = p_ev scr 136 3 [.ref 24, .int x1, .int x2] [.int x2, .int s0, .ref 24] w) ∧
  (∀ (scr : pX) (w : pW) (x1 : Int32) (x2 : Int32) (s0 : Int32) (s1 : Int32), p_ev scr 136 3 [.ref 24, .int x1, .int x2] [.int s0, .int s1, .ref 24] w = p_ev scr 136 4 [.ref 24, .int x1, .int x2] [.int (nI 1), .int s0, .int s1, .ref 24] w) ∧
  (∀ (scr : pX) (w : pW) (x1 : Int32) (x2 : Int32) (s0 : Int32) (s1 : Int32) (s2 : Int32), p_ev scr 136 4 [.ref 24, .int x1, .int x2] [.int s0, .int s1, .int s2, .ref 24] w = p_bnd scr 136 4 7 [.ref 24, .int x1, .int x2] [] (p_ev none 134 0 [.ref 24, .int s2, .int s1, .int s0, p_U, p_U, p_U, p_U, p_U, p_U, p_U] [] w)) ∧
  (∀ (scr : pX) (w : pW) (x1 : Int32) (x2 : Int32) (s0 : Int32), p_ev scr 136 7 [.ref 24, .int x1, .int x2] [.int s0] w = some (.inl (some (.int s0)), w, 0)) :=
  ⟨fun _ _ _ _ => p_r (by decide +kernel : p_at 136 0 = some (.aload_n 0)) rfl,
  fun _ _ _ _ => p_r (by decide +kernel : p_at 136 1 = some (.iload_n 1)) rfl,
  fun _ _ _ _ _ => p_r (by decide +kernel : p_at 136 2 = some (.iload_n 2)) rfl,
  fun _ _ _ _ _ _ => p_r (by decide +kernel : p_at 136 3 = some (.iconst 1)) rfl,
  fun _ _ _ _ _ _ _ => p_rcv (nl := 11) (by decide +kernel : p_at 136 4 = some (.invokevirtual 162)) (by decide +kernel : p_inv (p_own 136) 162 = some (1, 134, 4)) (by decide +kernel) (rfl : p_ob 24 = some (.inr (5, [some 25, some 26, none, none, none, some 27, some 28, some 29, some 30, some 31, some 32, some 33, some 34, some 35, some 36, some 37, some 38, some 39, none, none, some 40]))) rfl rfl (Nat.le_of_ble_eq_true rfl) (Nat.le_of_ble_eq_true rfl) (Nat.le_of_ble_eq_true rfl) rfl,
  fun _ _ _ _ _ => p_riret (by decide +kernel : p_at 136 7 = some (.ireturn)) (by decide +kernel)⟩
-- 137: riskAt
theorem M137 :
  (∀ (scr : pX) (w : pW) (x1 : Int32) (y2 : Int64) (y4 : Int64), p_ev scr 137 0 [.ref 24, .int x1, .long y2, p_U, .long y4, p_U, p_U, p_U, p_U, p_U, p_U] [] w = p_ev scr 137 1 [.ref 24, .int x1, .long y2, p_U, .long y4, p_U, p_U, p_U, p_U, p_U, p_U] [.ref 24] w) ∧
  (∀ (scr : pX) (w : pW) (x1 : Int32) (y2 : Int64) (y4 : Int64), p_ev scr 137 1 [.ref 24, .int x1, .long y2, p_U, .long y4, p_U, p_U, p_U, p_U, p_U, p_U] [.ref 24] w = p_ev scr 137 2 [.ref 24, .int x1, .long y2, p_U, .long y4, p_U, p_U, p_U, p_U, p_U, p_U] [.int x1, .ref 24] w) ∧
  (∀ (scr : pX) (w : pW) (x1 : Int32) (y2 : Int64) (y4 : Int64) (s0 : Int32), p_ev scr 137 2 [.ref 24, .int x1, .long y2, p_U, .long y4, p_U, p_U, p_U, p_U, p_U, p_U] [.int s0, .ref 24] w = p_bnd scr 137 2 5 [.ref 24, .int x1, .long y2, p_U, .long y4, p_U, p_U, p_U, p_U, p_U, p_U] [] (p_ev none 101 0 [.ref 24, .int s0, p_U, p_U] [] w)) ∧
  (∀ (scr : pX) (w : pW) (x1 : Int32) (y2 : Int64) (y4 : Int64) (s0 : Int32), p_ev scr 137 5 [.ref 24, .int x1, .long y2, p_U, .long y4, p_U, p_U, p_U, p_U, p_U, p_U] [.int s0] w = p_ev scr 137 6 [.ref 24, .int x1, .long y2, p_U, .long y4, p_U, p_U, p_U, p_U, p_U, p_U] [.long s0.toInt64] w) ∧
  (∀ (scr : pX) (w : pW) (x1 : Int32) (y2 : Int64) (y4 : Int64) (t0 : Int64), p_ev scr 137 6 [.ref 24, .int x1, .long y2, p_U, .long y4, p_U, p_U, p_U, p_U, p_U, p_U] [.long t0] w = p_ev scr 137 7 [.ref 24, .int x1, .long y2, p_U, .long y4, p_U, p_U, p_U, p_U, p_U, p_U] [.long y2, .long t0] w) ∧
  (∀ (scr : pX) (w : pW) (x1 : Int32) (y2 : Int64) (y4 : Int64) (t0 : Int64) (t1 : Int64), p_ev scr 137 7 [.ref 24, .int x1, .long y2, p_U, .long y4, p_U, p_U, p_U, p_U, p_U, p_U] [.long t0, .long t1] w = p_ev scr 137 8 [.ref 24, .int x1, .long y2, p_U, .long y4, p_U, p_U, p_U, p_U, p_U, p_U] [.long (t1 * t0)] w) ∧
  (∀ (scr : pX) (w : pW) (x1 : Int32) (y2 : Int64) (y4 : Int64) (t0 : Int64), p_ev scr 137 8 [.ref 24, .int x1, .long y2, p_U, .long y4, p_U, p_U, p_U, p_U, p_U, p_U] [.long t0] w = p_ev scr 137 9 [.ref 24, .int x1, .long y2, p_U, .long y4, p_U, p_U, p_U, p_U, p_U, p_U] [.long y2, .long t0] w) ∧
  (∀ (scr : pX) (w : pW) (x1 : Int32) (y2 : Int64) (y4 : Int64) (t0 : Int64) (t1 : Int64), p_ev scr 137 9 [.ref 24, .int x1, .long y2, p_U, .long y4, p_U, p_U, p_U, p_U, p_U, p_U] [.long t0, .long t1] w = p_ev scr 137 10 [.ref 24, .int x1, .long y2, p_U, .long y4, p_U, p_U, p_U, p_U, p_U, p_U] [.long (t1 * t0)] w) ∧
  (∀ (scr : pX) (w : pW) (x1 : Int32) (y2 : Int64) (y4 : Int64) (t0 : Int64), p_ev scr 137 10 [.ref 24, .int x1, .long y2, p_U, .long y4, p_U, p_U, p_U, p_U, p_U, p_U] [.long t0] w = p_ev scr 137 12 [.ref 24, .int x1, .long y2, p_U, .long y4, p_U, .long t0, p_U, p_U, p_U, p_U] [] w) ∧
  (∀ (scr : pX) (w : pW) (x1 : Int32) (y2 : Int64) (y4 : Int64) (y6 : Int64), p_ev scr 137 12 [.ref 24, .int x1, .long y2, p_U, .long y4, p_U, .long y6, p_U, p_U, p_U, p_U] [] w = p_ev scr 137 13 [.ref 24, .int x1, .long y2, p_U, .long y4, p_U, .long y6, p_U, p_U, p_U, p_U] [.int (nI 0)] w) ∧
  (∀ (scr : pX) (w : pW) (x1 : Int32) (y2 : Int64) (y4 : Int64) (y6 : Int64) (s0 : Int32), p_ev scr 137 13 [.ref 24, .int x1, .long y2, p_U, .long y4, p_U, .long y6, p_U, p_U, p_U, p_U] [.int s0] w = p_ev scr 137 15 [.ref 24, .int x1, .long y2, p_U, .long y4, p_U, .long y6, p_U, .int s0, p_U, p_U] [] w) ∧
  (∀ (scr : pX) (w : pW) (x1 : Int32) (y2 : Int64) (y4 : Int64) (y6 : Int64) (x8 : Int32) (z9 : Value) (s0 : Int32), p_ev scr 137 17 [.ref 24, .int x1, .long y2, p_U, .long y4, p_U, .long y6, p_U, .int x8, z9, p_U] [.int s0] w = p_ev scr 137 18 [.ref 24, .int x1, .long y2, p_U, .long y4, p_U, .long y6, p_U, .int x8, z9, p_U] [.ref 24, .int s0] w) ∧
  (∀ (scr : pX) (w : pW) (x1 : Int32) (y2 : Int64) (y4 : Int64) (y6 : Int64) (x8 : Int32) (z9 : Value) (s1 : Int32), p_ev scr 137 18 [.ref 24, .int x1, .long y2, p_U, .long y4, p_U, .long y6, p_U, .int x8, z9, p_U] [.ref 24, .int s1] w = p_ev scr 137 19 [.ref 24, .int x1, .long y2, p_U, .long y4, p_U, .long y6, p_U, .int x8, z9, p_U] [.int x1, .ref 24, .int s1] w) ∧
  (∀ (scr : pX) (w : pW) (x1 : Int32) (y2 : Int64) (y4 : Int64) (y6 : Int64) (x8 : Int32) (z9 : Value) (s0 : Int32) (s2 : Int32), p_ev scr 137 19 [.ref 24, .int x1, .long y2, p_U, .long y4, p_U, .long y6, p_U, .int x8, z9, p_U] [.int s0, .ref 24, .int s2] w = p_bnd scr 137 19 22 [.ref 24, .int x1, .long y2, p_U, .long y4, p_U, .long y6, p_U, .int x8, z9, p_U] [.int s2] (p_ev none 101 0 [.ref 24, .int s0, p_U, p_U] [] w)) ∧
  (∀ (scr : pX) (w : pW) (x1 : Int32) (y2 : Int64) (y4 : Int64) (y6 : Int64) (x8 : Int32) (z9 : Value) (s0 : Int32) (s1 : Int32), p_ev scr 137 22 [.ref 24, .int x1, .long y2, p_U, .long y4, p_U, .long y6, p_U, .int x8, z9, p_U] [.int s0, .int s1] w = if s0 ≤ s1 then p_ev scr 137 82 [.ref 24, .int x1, .long y2, p_U, .long y4, p_U, .long y6, p_U, .int x8, z9, p_U] [] w else p_ev scr 137 25 [.ref 24, .int x1, .long y2, p_U, .long y4, p_U, .long y6, p_U, .int x8, z9, p_U] [] w) ∧
  (∀ (scr : pX) (w : pW) (x1 : Int32) (y2 : Int64) (y4 : Int64) (y6 : Int64) (x8 : Int32) (z9 : Value), p_ev scr 137 25 [.ref 24, .int x1, .long y2, p_U, .long y4, p_U, .long y6, p_U, .int x8, z9, p_U] [] w = p_ev scr 137 26 [.ref 24, .int x1, .long y2, p_U, .long y4, p_U, .long y6, p_U, .int x8, z9, p_U] [.ref 24] w) ∧
  (∀ (scr : pX) (w : pW) (x1 : Int32) (y2 : Int64) (y4 : Int64) (y6 : Int64) (x8 : Int32) (z9 : Value), p_ev scr 137 26 [.ref 24, .int x1, .long y2, p_U, .long y4, p_U, .long y6, p_U, .int x8, z9, p_U] [.ref 24] w = p_ev scr 137 29 [.ref 24, .int x1, .long y2, p_U, .long y4, p_U, .long y6, p_U, .int x8, z9, p_U] [.ref 26] w) ∧
  (∀ (scr : pX) (w : pW) (x1 : Int32) (y2 : Int64) (y4 : Int64) (y6 : Int64) (x8 : Int32) (z9 : Value), p_ev scr 137 29 [.ref 24, .int x1, .long y2, p_U, .long y4, p_U, .long y6, p_U, .int x8, z9, p_U] [.ref 26] w = p_ev scr 137 31 [.ref 24, .int x1, .long y2, p_U, .long y4, p_U, .long y6, p_U, .int x8, z9, p_U] [.int (nI 32), .ref 26] w) ∧
  (∀ (scr : pX) (w : pW) (x1 : Int32) (y2 : Int64) (y4 : Int64) (y6 : Int64) (x8 : Int32) (z9 : Value) (s0 : Int32), p_ev scr 137 31 [.ref 24, .int x1, .long y2, p_U, .long y4, p_U, .long y6, p_U, .int x8, z9, p_U] [.int s0, .ref 26] w = p_ev scr 137 32 [.ref 24, .int x1, .long y2, p_U, .long y4, p_U, .long y6, p_U, .int x8, z9, p_U] [.int x1, .int s0, .ref 26] w) ∧
  (∀ (scr : pX) (w : pW) (x1 : Int32) (y2 : Int64) (y4 : Int64) (y6 : Int64) (x8 : Int32) (z9 : Value) (s0 : Int32) (s1 : Int32), p_ev scr 137 32 [.ref 24, .int x1, .long y2, p_U, .long y4, p_U, .long y6, p_U, .int x8, z9, p_U] [.int s0, .int s1, .ref 26] w = p_ev scr 137 33 [.ref 24, .int x1, .long y2, p_U, .long y4, p_U, .long y6, p_U, .int x8, z9, p_U] [.int (s1 * s0), .ref 26] w) ∧
  (∀ (scr : pX) (w : pW) (x1 : Int32) (y2 : Int64) (y4 : Int64) (y6 : Int64) (x8 : Int32) (z9 : Value) (s0 : Int32), p_ev scr 137 33 [.ref 24, .int x1, .long y2, p_U, .long y4, p_U, .long y6, p_U, .int x8, z9, p_U] [.int s0, .ref 26] w = p_ev scr 137 35 [.ref 24, .int x1, .long y2, p_U, .long y4, p_U, .long y6, p_U, .int x8, z9, p_U] [.int x8, .int s0, .ref 26] w) ∧
  (∀ (scr : pX) (w : pW) (x1 : Int32) (y2 : Int64) (y4 : Int64) (y6 : Int64) (x8 : Int32) (z9 : Value) (s0 : Int32) (s1 : Int32), p_ev scr 137 35 [.ref 24, .int x1, .long y2, p_U, .long y4, p_U, .long y6, p_U, .int x8, z9, p_U] [.int s0, .int s1, .ref 26] w = p_ev scr 137 36 [.ref 24, .int x1, .long y2, p_U, .long y4, p_U, .long y6, p_U, .int x8, z9, p_U] [.int (s1 + s0), .ref 26] w) ∧
  (∀ (scr : pX) (w : pW) (x1 : Int32) (y2 : Int64) (y4 : Int64) (y6 : Int64) (x8 : Int32) (z9 : Value) (s0 : Int32), p_out s0 512 = false → p_ev scr 137 36 [.ref 24, .int x1, .long y2, p_U, .long y4, p_U, .long y6, p_U, .int x8, z9, p_U] [.int s0, .ref 26] w = p_ev scr 137 37 [.ref 24, .int x1, .long y2, p_U, .long y4, p_U, .long y6, p_U, .int x8, z9, p_U] [.long (w.2.1 26 s0.toNatClampNeg)] w) ∧
  (∀ (scr : pX) (w : pW) (x1 : Int32) (y2 : Int64) (y4 : Int64) (y6 : Int64) (x8 : Int32) (z9 : Value) (t0 : Int64), p_ev scr 137 37 [.ref 24, .int x1, .long y2, p_U, .long y4, p_U, .long y6, p_U, .int x8, z9, p_U] [.long t0] w = p_bnd scr 137 37 40 [.ref 24, .int x1, .long y2, p_U, .long y4, p_U, .long y6, p_U, .int x8, z9, p_U] [] (p_ev none 98 0 [.long t0, p_U] [] w)) ∧
  (∀ (scr : pX) (w : pW) (x1 : Int32) (y2 : Int64) (y4 : Int64) (y6 : Int64) (x8 : Int32) (z9 : Value) (t0 : Int64), p_ev scr 137 40 [.ref 24, .int x1, .long y2, p_U, .long y4, p_U, .long y6, p_U, .int x8, z9, p_U] [.long t0] w = p_ev scr 137 42 [.ref 24, .int x1, .long y2, p_U, .long y4, p_U, .long y6, p_U, .int x8, .long t0, p_U] [] w) ∧
  (∀ (scr : pX) (w : pW) (x1 : Int32) (y2 : Int64) (y4 : Int64) (y6 : Int64) (x8 : Int32) (y9 : Int64), p_ev scr 137 42 [.ref 24, .int x1, .long y2, p_U, .long y4, p_U, .long y6, p_U, .int x8, .long y9, p_U] [] w = p_ev scr 137 44 [.ref 24, .int x1, .long y2, p_U, .long y4, p_U, .long y6, p_U, .int x8, .long y9, p_U] [.long y6] w) ∧
  (∀ (scr : pX) (w : pW) (x1 : Int32) (y2 : Int64) (y4 : Int64) (y6 : Int64) (x8 : Int32) (y9 : Int64) (t0 : Int64), p_ev scr 137 44 [.ref 24, .int x1, .long y2, p_U, .long y4, p_U, .long y6, p_U, .int x8, .long y9, p_U] [.long t0] w = p_ev scr 137 46 [.ref 24, .int x1, .long y2, p_U, .long y4, p_U, .long y6, p_U, .int x8, .long y9, p_U] [.long y9, .long t0] w) ∧
  (∀ (scr : pX) (w : pW) (x1 : Int32) (y2 : Int64) (y4 : Int64) (y6 : Int64) (x8 : Int32) (y9 : Int64) (t0 : Int64) (t1 : Int64), p_ev scr 137 46 [.ref 24, .int x1, .long y2, p_U, .long y4, p_U, .long y6, p_U, .int x8, .long y9, p_U] [.long t0, .long t1] w = p_ev scr 137 48 [.ref 24, .int x1, .long y2, p_U, .long y4, p_U, .long y6, p_U, .int x8, .long y9, p_U] [.long y4, .long t0, .long t1] w) ∧
  (∀ (scr : pX) (w : pW) (x1 : Int32) (y2 : Int64) (y4 : Int64) (y6 : Int64) (x8 : Int32) (y9 : Int64) (t0 : Int64) (t1 : Int64) (t2 : Int64), p_ev scr 137 48 [.ref 24, .int x1, .long y2, p_U, .long y4, p_U, .long y6, p_U, .int x8, .long y9, p_U] [.long t0, .long t1, .long t2] w = p_ev scr 137 49 [.ref 24, .int x1, .long y2, p_U, .long y4, p_U, .long y6, p_U, .int x8, .long y9, p_U] [.int (lg_cmp t1 t0), .long t2] w) ∧
  (∀ (scr : pX) (w : pW) (x1 : Int32) (y2 : Int64) (y4 : Int64) (y6 : Int64) (x8 : Int32) (y9 : Int64) (s0 : Int32) (t1 : Int64), p_ev scr 137 49 [.ref 24, .int x1, .long y2, p_U, .long y4, p_U, .long y6, p_U, .int x8, .long y9, p_U] [.int s0, .long t1] w = if nI 0 < s0 then p_ev scr 137 68 [.ref 24, .int x1, .long y2, p_U, .long y4, p_U, .long y6, p_U, .int x8, .long y9, p_U] [.long t1] w else p_ev scr 137 52 [.ref 24, .int x1, .long y2, p_U, .long y4, p_U, .long y6, p_U, .int x8, .long y9, p_U] [.long t1] w) ∧
  (∀ (scr : pX) (w : pW) (x1 : Int32) (y2 : Int64) (y4 : Int64) (y6 : Int64) (x8 : Int32) (y9 : Int64) (t0 : Int64), p_ev scr 137 52 [.ref 24, .int x1, .long y2, p_U, .long y4, p_U, .long y6, p_U, .int x8, .long y9, p_U] [.long t0] w = p_ev scr 137 54 [.ref 24, .int x1, .long y2, p_U, .long y4, p_U, .long y6, p_U, .int x8, .long y9, p_U] [.long y9, .long t0] w) ∧
  (∀ (scr : pX) (w : pW) (x1 : Int32) (y2 : Int64) (y4 : Int64) (y6 : Int64) (x8 : Int32) (y9 : Int64) (t0 : Int64) (t1 : Int64), p_ev scr 137 54 [.ref 24, .int x1, .long y2, p_U, .long y4, p_U, .long y6, p_U, .int x8, .long y9, p_U] [.long t0, .long t1] w = p_ev scr 137 56 [.ref 24, .int x1, .long y2, p_U, .long y4, p_U, .long y6, p_U, .int x8, .long y9, p_U] [.long y9, .long t0, .long t1] w) ∧
  (∀ (scr : pX) (w : pW) (x1 : Int32) (y2 : Int64) (y4 : Int64) (y6 : Int64) (x8 : Int32) (y9 : Int64) (t0 : Int64) (t1 : Int64) (t2 : Int64), p_ev scr 137 56 [.ref 24, .int x1, .long y2, p_U, .long y4, p_U, .long y6, p_U, .int x8, .long y9, p_U] [.long t0, .long t1, .long t2] w = p_ev scr 137 57 [.ref 24, .int x1, .long y2, p_U, .long y4, p_U, .long y6, p_U, .int x8, .long y9, p_U] [.long (t1 * t0), .long t2] w) ∧
  (∀ (scr : pX) (w : pW) (x1 : Int32) (y2 : Int64) (y4 : Int64) (y6 : Int64) (x8 : Int32) (y9 : Int64) (t0 : Int64) (t1 : Int64), p_ev scr 137 57 [.ref 24, .int x1, .long y2, p_U, .long y4, p_U, .long y6, p_U, .int x8, .long y9, p_U] [.long t0, .long t1] w = p_ev scr 137 60 [.ref 24, .int x1, .long y2, p_U, .long y4, p_U, .long y6, p_U, .int x8, .long y9, p_U] [.long (lN 2), .long t0, .long t1] w) ∧
  (∀ (scr : pX) (w : pW) (x1 : Int32) (y2 : Int64) (y4 : Int64) (y6 : Int64) (x8 : Int32) (y9 : Int64) (t0 : Int64) (t1 : Int64) (t2 : Int64), p_ev scr 137 60 [.ref 24, .int x1, .long y2, p_U, .long y4, p_U, .long y6, p_U, .int x8, .long y9, p_U] [.long t0, .long t1, .long t2] w = p_ev scr 137 61 [.ref 24, .int x1, .long y2, p_U, .long y4, p_U, .long y6, p_U, .int x8, .long y9, p_U] [.long y2, .long t0, .long t1, .long t2] w) ∧
  (∀ (scr : pX) (w : pW) (x1 : Int32) (y2 : Int64) (y4 : Int64) (y6 : Int64) (x8 : Int32) (y9 : Int64) (t0 : Int64) (t1 : Int64) (t2 : Int64) (t3 : Int64), p_ev scr 137 61 [.ref 24, .int x1, .long y2, p_U, .long y4, p_U, .long y6, p_U, .int x8, .long y9, p_U] [.long t0, .long t1, .long t2, .long t3] w = p_ev scr 137 62 [.ref 24, .int x1, .long y2, p_U, .long y4, p_U, .long y6, p_U, .int x8, .long y9, p_U] [.long (t1 * t0), .long t2, .long t3] w) ∧
  (∀ (scr : pX) (w : pW) (x1 : Int32) (y2 : Int64) (y4 : Int64) (y6 : Int64) (x8 : Int32) (y9 : Int64) (t0 : Int64) (t1 : Int64) (t2 : Int64), p_ev scr 137 62 [.ref 24, .int x1, .long y2, p_U, .long y4, p_U, .long y6, p_U, .int x8, .long y9, p_U] [.long t0, .long t1, .long t2] w = p_ev scr 137 63 [.ref 24, .int x1, .long y2, p_U, .long y4, p_U, .long y6, p_U, .int x8, .long y9, p_U] [.long y2, .long t0, .long t1, .long t2] w) ∧
  (∀ (scr : pX) (w : pW) (x1 : Int32) (y2 : Int64) (y4 : Int64) (y6 : Int64) (x8 : Int32) (y9 : Int64) (t0 : Int64) (t1 : Int64) (t2 : Int64) (t3 : Int64), p_ev scr 137 63 [.ref 24, .int x1, .long y2, p_U, .long y4, p_U, .long y6, p_U, .int x8, .long y9, p_U] [.long t0, .long t1, .long t2, .long t3] w = p_ev scr 137 64 [.ref 24, .int x1, .long y2, p_U, .long y4, p_U, .long y6, p_U, .int x8, .long y9, p_U] [.long (t1 * t0), .long t2, .long t3] w) ∧
  (∀ (scr : pX) (w : pW) (x1 : Int32) (y2 : Int64) (y4 : Int64) (y6 : Int64) (x8 : Int32) (y9 : Int64) (t0 : Int64) (t1 : Int64) (t2 : Int64), p_ev scr 137 64 [.ref 24, .int x1, .long y2, p_U, .long y4, p_U, .long y6, p_U, .int x8, .long y9, p_U] [.long t0, .long t1, .long t2] w = p_ev scr 137 65 [.ref 24, .int x1, .long y2, p_U, .long y4, p_U, .long y6, p_U, .int x8, .long y9, p_U] [.long (t1 - t0), .long t2] w) ∧
  (∀ (scr : pX) (w : pW) (x1 : Int32) (y2 : Int64) (y4 : Int64) (y6 : Int64) (x8 : Int32) (y9 : Int64) (t0 : Int64) (t1 : Int64), p_ev scr 137 65 [.ref 24, .int x1, .long y2, p_U, .long y4, p_U, .long y6, p_U, .int x8, .long y9, p_U] [.long t0, .long t1] w = p_ev scr 137 73 [.ref 24, .int x1, .long y2, p_U, .long y4, p_U, .long y6, p_U, .int x8, .long y9, p_U] [.long t0, .long t1] w) ∧
  (∀ (scr : pX) (w : pW) (x1 : Int32) (y2 : Int64) (y4 : Int64) (y6 : Int64) (x8 : Int32) (y9 : Int64) (t0 : Int64), p_ev scr 137 68 [.ref 24, .int x1, .long y2, p_U, .long y4, p_U, .long y6, p_U, .int x8, .long y9, p_U] [.long t0] w = p_ev scr 137 70 [.ref 24, .int x1, .long y2, p_U, .long y4, p_U, .long y6, p_U, .int x8, .long y9, p_U] [.long y4, .long t0] w) ∧
  (∀ (scr : pX) (w : pW) (x1 : Int32) (y2 : Int64) (y4 : Int64) (y6 : Int64) (x8 : Int32) (y9 : Int64) (t0 : Int64) (t1 : Int64), p_ev scr 137 70 [.ref 24, .int x1, .long y2, p_U, .long y4, p_U, .long y6, p_U, .int x8, .long y9, p_U] [.long t0, .long t1] w = p_ev scr 137 72 [.ref 24, .int x1, .long y2, p_U, .long y4, p_U, .long y6, p_U, .int x8, .long y9, p_U] [.long y4, .long t0, .long t1] w) ∧
  (∀ (scr : pX) (w : pW) (x1 : Int32) (y2 : Int64) (y4 : Int64) (y6 : Int64) (x8 : Int32) (y9 : Int64) (t0 : Int64) (t1 : Int64) (t2 : Int64), p_ev scr 137 72 [.ref 24, .int x1, .long y2, p_U, .long y4, p_U, .long y6, p_U, .int x8, .long y9, p_U] [.long t0, .long t1, .long t2] w = p_ev scr 137 73 [.ref 24, .int x1, .long y2, p_U, .long y4, p_U, .long y6, p_U, .int x8, .long y9, p_U] [.long (t1 * t0), .long t2] w) ∧
  (∀ (scr : pX) (w : pW) (x1 : Int32) (y2 : Int64) (y4 : Int64) (y6 : Int64) (x8 : Int32) (y9 : Int64) (t0 : Int64) (t1 : Int64), p_ev scr 137 73 [.ref 24, .int x1, .long y2, p_U, .long y4, p_U, .long y6, p_U, .int x8, .long y9, p_U] [.long t0, .long t1] w = p_ev scr 137 74 [.ref 24, .int x1, .long y2, p_U, .long y4, p_U, .long y6, p_U, .int x8, .long y9, p_U] [.long (t1 + t0)] w) ∧
  (∀ (scr : pX) (w : pW) (x1 : Int32) (y2 : Int64) (y4 : Int64) (y6 : Int64) (x8 : Int32) (y9 : Int64) (t0 : Int64), p_ev scr 137 74 [.ref 24, .int x1, .long y2, p_U, .long y4, p_U, .long y6, p_U, .int x8, .long y9, p_U] [.long t0] w = p_ev scr 137 76 [.ref 24, .int x1, .long y2, p_U, .long y4, p_U, .long t0, p_U, .int x8, .long y9, p_U] [] w) ∧
  (∀ (scr : pX) (w : pW) (x1 : Int32) (y2 : Int64) (y4 : Int64) (y6 : Int64) (x8 : Int32) (y9 : Int64), p_ev scr 137 76 [.ref 24, .int x1, .long y2, p_U, .long y4, p_U, .long y6, p_U, .int x8, .long y9, p_U] [] w = p_ev scr 137 79 [.ref 24, .int x1, .long y2, p_U, .long y4, p_U, .long y6, p_U, .int (x8 + (nI 1)), .long y9, p_U] [] w) ∧
  (∀ (scr : pX) (w : pW) (x1 : Int32) (y2 : Int64) (y4 : Int64) (y6 : Int64) (x8 : Int32) (y9 : Int64), p_ev scr 137 79 [.ref 24, .int x1, .long y2, p_U, .long y4, p_U, .long y6, p_U, .int x8, .long y9, p_U] [] w = p_ev scr 137 15 [.ref 24, .int x1, .long y2, p_U, .long y4, p_U, .long y6, p_U, .int x8, .long y9, p_U] [] w) ∧
  (∀ (scr : pX) (w : pW) (x1 : Int32) (y2 : Int64) (y4 : Int64) (y6 : Int64) (x8 : Int32) (z9 : Value), p_ev scr 137 82 [.ref 24, .int x1, .long y2, p_U, .long y4, p_U, .long y6, p_U, .int x8, z9, p_U] [] w = p_ev scr 137 84 [.ref 24, .int x1, .long y2, p_U, .long y4, p_U, .long y6, p_U, .int x8, z9, p_U] [.long y6] w) ∧
  (∀ (scr : pX) (w : pW) (x1 : Int32) (y2 : Int64) (y4 : Int64) (y6 : Int64) (x8 : Int32) (z9 : Value) (t0 : Int64), p_ev scr 137 84 [.ref 24, .int x1, .long y2, p_U, .long y4, p_U, .long y6, p_U, .int x8, z9, p_U] [.long t0] w = some (.inl (some (.long t0)), w, 0)) :=
  ⟨fun _ _ _ _ _ => p_r (by decide +kernel : p_at 137 0 = some (.aload_n 0)) rfl,
  fun _ _ _ _ _ => p_r (by decide +kernel : p_at 137 1 = some (.iload_n 1)) rfl,
  fun _ _ _ _ _ _ => p_rcv (nl := 4) (by decide +kernel : p_at 137 2 = some (.invokevirtual 113)) (by decide +kernel : p_inv (p_own 137) 113 = some (1, 101, 2)) (by decide +kernel) (rfl : p_ob 24 = some (.inr (5, [some 25, some 26, none, none, none, some 27, some 28, some 29, some 30, some 31, some 32, some 33, some 34, some 35, some 36, some 37, some 38, some 39, none, none, some 40]))) rfl rfl (Nat.le_of_ble_eq_true rfl) (Nat.le_of_ble_eq_true rfl) (Nat.le_of_ble_eq_true rfl) rfl,
  fun _ _ _ _ _ _ => p_r (by decide +kernel : p_at 137 5 = some (.i2l)) rfl,
  fun _ _ _ _ _ _ => p_r (by decide +kernel : p_at 137 6 = some (.lload_n 2)) rfl,
  fun _ _ _ _ _ _ _ => p_r (by decide +kernel : p_at 137 7 = some (.lmul)) rfl,
  fun _ _ _ _ _ _ => p_r (by decide +kernel : p_at 137 8 = some (.lload_n 2)) rfl,
  fun _ _ _ _ _ _ _ => p_r (by decide +kernel : p_at 137 9 = some (.lmul)) rfl,
  fun _ _ _ _ _ _ => p_r (by decide +kernel : p_at 137 10 = some (.lstore 6)) rfl,
  fun _ _ _ _ _ _ => p_r (by decide +kernel : p_at 137 12 = some (.iconst 0)) rfl,
  fun _ _ _ _ _ _ _ => p_r (by decide +kernel : p_at 137 13 = some (.istore 8)) rfl,
  fun _ _ _ _ _ _ _ _ _ => p_r (by decide +kernel : p_at 137 17 = some (.aload_n 0)) rfl,
  fun _ _ _ _ _ _ _ _ _ => p_r (by decide +kernel : p_at 137 18 = some (.iload_n 1)) rfl,
  fun _ _ _ _ _ _ _ _ _ _ => p_rcv (nl := 4) (by decide +kernel : p_at 137 19 = some (.invokevirtual 113)) (by decide +kernel : p_inv (p_own 137) 113 = some (1, 101, 2)) (by decide +kernel) (rfl : p_ob 24 = some (.inr (5, [some 25, some 26, none, none, none, some 27, some 28, some 29, some 30, some 31, some 32, some 33, some 34, some 35, some 36, some 37, some 38, some 39, none, none, some 40]))) rfl rfl (Nat.le_of_ble_eq_true rfl) (Nat.le_of_ble_eq_true rfl) (Nat.le_of_ble_eq_true rfl) rfl,
  fun _ _ _ _ _ _ _ _ _ _ => p_rb2 (c := fun x y => decide (y ≤ x)) (off := 60) (by decide +kernel : p_at 137 22 = some (.if_icmp .ge 60)) (by decide +kernel) rfl rfl rfl,
  fun _ _ _ _ _ _ _ _ => p_r (by decide +kernel : p_at 137 25 = some (.aload_n 0)) rfl,
  fun _ _ _ _ _ _ _ _ => p_rgf (f := some 26) (by decide +kernel : p_at 137 26 = some (.getfield 13)) (by decide +kernel : p_fld (p_own 137) 13 = some (5, 1)) (rfl : p_ob 24 = some (.inr (5, [some 25, some 26, none, none, none, some 27, some 28, some 29, some 30, some 31, some 32, some 33, some 34, some 35, some 36, some 37, some 38, some 39, none, none, some 40]))) rfl,
  fun _ _ _ _ _ _ _ _ => p_r (by decide +kernel : p_at 137 29 = some (.bipush 32)) rfl,
  fun _ _ _ _ _ _ _ _ _ => p_r (by decide +kernel : p_at 137 31 = some (.iload_n 1)) rfl,
  fun _ _ _ _ _ _ _ _ _ _ => p_r (by decide +kernel : p_at 137 32 = some (.imul)) rfl,
  fun _ _ _ _ _ _ _ _ _ => p_r (by decide +kernel : p_at 137 33 = some (.iload 8)) rfl,
  fun _ _ _ _ _ _ _ _ _ _ => p_r (by decide +kernel : p_at 137 35 = some (.iadd)) rfl,
  fun _ _ _ _ _ _ _ _ _ hp => p_rlald (by decide +kernel : p_at 137 36 = some (.laload)) (rfl : p_ob 26 = some (.inl (2, 512))) hp,
  fun _ _ _ _ _ _ _ _ _ => p_rcs (nl := 2) (by decide +kernel : p_at 137 37 = some (.invokestatic 66)) (by decide +kernel : p_inv (p_own 137) 66 = some (1, 98, 1)) (by decide +kernel) rfl rfl (Nat.le_of_ble_eq_true rfl) (Nat.le_of_ble_eq_true rfl) (Nat.le_of_ble_eq_true rfl) rfl,
  fun _ _ _ _ _ _ _ _ _ => p_r (by decide +kernel : p_at 137 40 = some (.lstore 9)) rfl,
  fun _ _ _ _ _ _ _ _ => p_r (by decide +kernel : p_at 137 42 = some (.lload 6)) rfl,
  fun _ _ _ _ _ _ _ _ _ => p_r (by decide +kernel : p_at 137 44 = some (.lload 9)) rfl,
  fun _ _ _ _ _ _ _ _ _ _ => p_r (by decide +kernel : p_at 137 46 = some (.lload 4)) rfl,
  fun _ _ _ _ _ _ _ _ _ _ _ => p_r (by decide +kernel : p_at 137 48 = some (.lcmp)) rfl,
  fun _ _ _ _ _ _ _ _ _ _ => p_rb1 (c := fun x => decide (0 < x)) (off := 19) (by decide +kernel : p_at 137 49 = some (.ifCond .gt 19)) (by decide +kernel) rfl rfl rfl,
  fun _ _ _ _ _ _ _ _ _ => p_r (by decide +kernel : p_at 137 52 = some (.lload 9)) rfl,
  fun _ _ _ _ _ _ _ _ _ _ => p_r (by decide +kernel : p_at 137 54 = some (.lload 9)) rfl,
  fun _ _ _ _ _ _ _ _ _ _ _ => p_r (by decide +kernel : p_at 137 56 = some (.lmul)) rfl,
  fun _ _ _ _ _ _ _ _ _ _ => p_rldcJ (by decide +kernel : p_at 137 57 = some (.ldc2_w 70)) (by decide +kernel),
  fun _ _ _ _ _ _ _ _ _ _ _ => p_r (by decide +kernel : p_at 137 60 = some (.lload_n 2)) rfl,
  fun _ _ _ _ _ _ _ _ _ _ _ _ => p_r (by decide +kernel : p_at 137 61 = some (.lmul)) rfl,
  fun _ _ _ _ _ _ _ _ _ _ _ => p_r (by decide +kernel : p_at 137 62 = some (.lload_n 2)) rfl,
  fun _ _ _ _ _ _ _ _ _ _ _ _ => p_r (by decide +kernel : p_at 137 63 = some (.lmul)) rfl,
  fun _ _ _ _ _ _ _ _ _ _ _ => p_r (by decide +kernel : p_at 137 64 = some (.lsub)) rfl,
  fun _ _ _ _ _ _ _ _ _ _ => p_rgo (by decide +kernel : p_at 137 65 = some (.goto 8)) (by decide +kernel),
  fun _ _ _ _ _ _ _ _ _ => p_r (by decide +kernel : p_at 137 68 = some (.lload 4)) rfl,
  fun _ _ _ _ _ _ _ _ _ _ => p_r (by decide +kernel : p_at 137 70 = some (.lload 4)) rfl,
  fun _ _ _ _ _ _ _ _ _ _ _ => p_r (by decide +kernel : p_at 137 72 = some (.lmul)) rfl,
  fun _ _ _ _ _ _ _ _ _ _ => p_r (by decide +kernel : p_at 137 73 = some (.ladd)) rfl,
  fun _ _ _ _ _ _ _ _ _ => p_r (by decide +kernel : p_at 137 74 = some (.lstore 6)) rfl,
  fun _ _ _ _ _ _ _ _ => p_r (by decide +kernel : p_at 137 76 = some (.iinc 8 1)) rfl,
  fun _ _ _ _ _ _ _ _ => p_rgo (by decide +kernel : p_at 137 79 = some (.goto (-64))) (by decide +kernel),
  fun _ _ _ _ _ _ _ _ => p_r (by decide +kernel : p_at 137 82 = some (.lload 6)) rfl,
  fun _ _ _ _ _ _ _ _ _ => p_rlret (by decide +kernel : p_at 137 84 = some (.lreturn)) (by decide +kernel)⟩
theorem H137_15 :
  (∀ (scr : pX) (w : pW) (x1 : Int32) (y2 : Int64) (y4 : Int64) (y6 : Int64) (x8 : Int32) (z9 : Value), p_ev scr 137 15 [.ref 24, .int x1, .long y2, p_U, .long y4, p_U, .long y6, p_U, .int x8, z9, p_U] [] w = p_ev scr 137 17 [.ref 24, .int x1, .long y2, p_U, .long y4, p_U, .long y6, p_U, .int x8, z9, p_U] [.int x8] w) :=
  fun _ _ _ _ _ _ _ _ => p_r (by decide +kernel : p_at 137 15 = some (.iload 8)) rfl
-- 138: risk
theorem M138 :
  (∀ (scr : pX) (w : pW) (x1 : Int32) (x2 : Int32) (x3 : Int32), p_ev scr 138 0 [.ref 24, .int x1, .int x2, .int x3] [] w = p_ev scr 138 1 [.ref 24, .int x1, .int x2, .int x3] [.ref 24] w) ∧
  (∀ (scr : pX) (w : pW) (x1 : Int32) (x2 : Int32) (x3 : Int32), p_ev scr 138 1 [.ref 24, .int x1, .int x2, .int x3] [.ref 24] w = p_ev scr 138 2 [.ref 24, .int x1, .int x2, .int x3] [.int (nI 0), .ref 24] w) ∧
  (∀ (scr : pX) (w : pW) (x1 : Int32) (x2 : Int32) (x3 : Int32) (s0 : Int32), p_ev scr 138 2 [.ref 24, .int x1, .int x2, .int x3] [.int s0, .ref 24] w = p_ev scr 138 5 [.ref 24, .int x1, .int x2, .int x3] [] (p_u w.1 24 4 s0, w.2)) ∧
  (∀ (scr : pX) (w : pW) (x1 : Int32) (x2 : Int32) (x3 : Int32), p_ev scr 138 5 [.ref 24, .int x1, .int x2, .int x3] [] w = p_ev scr 138 6 [.ref 24, .int x1, .int x2, .int x3] [.ref 24] w) ∧
  (∀ (scr : pX) (w : pW) (x1 : Int32) (x2 : Int32) (x3 : Int32), p_ev scr 138 6 [.ref 24, .int x1, .int x2, .int x3] [.ref 24] w = p_ev scr 138 7 [.ref 24, .int x1, .int x2, .int x3] [.int x1, .ref 24] w) ∧
  (∀ (scr : pX) (w : pW) (x1 : Int32) (x2 : Int32) (x3 : Int32) (s0 : Int32), p_ev scr 138 7 [.ref 24, .int x1, .int x2, .int x3] [.int s0, .ref 24] w = p_bnd scr 138 7 10 [.ref 24, .int x1, .int x2, .int x3] [] (p_ev none 102 0 [.ref 24, .int s0] [] w)) ∧
  (∀ (scr : pX) (w : pW) (x1 : Int32) (x2 : Int32) (x3 : Int32) (s0 : Int32), p_ev scr 138 10 [.ref 24, .int x1, .int x2, .int x3] [.int s0] w = if ¬ s0 = nI 0 then p_ev scr 138 20 [.ref 24, .int x1, .int x2, .int x3] [] w else p_ev scr 138 13 [.ref 24, .int x1, .int x2, .int x3] [] w) ∧
  (∀ (scr : pX) (w : pW) (x1 : Int32) (x2 : Int32) (x3 : Int32), p_ev scr 138 13 [.ref 24, .int x1, .int x2, .int x3] [] w = p_ev scr 138 14 [.ref 24, .int x1, .int x2, .int x3] [.ref 24] w) ∧
  (∀ (scr : pX) (w : pW) (x1 : Int32) (x2 : Int32) (x3 : Int32), p_ev scr 138 14 [.ref 24, .int x1, .int x2, .int x3] [.ref 24] w = p_ev scr 138 15 [.ref 24, .int x1, .int x2, .int x3] [.int (nI 1), .ref 24] w) ∧
  (∀ (scr : pX) (w : pW) (x1 : Int32) (x2 : Int32) (x3 : Int32) (s0 : Int32), p_ev scr 138 15 [.ref 24, .int x1, .int x2, .int x3] [.int s0, .ref 24] w = p_bnd scr 138 15 18 [.ref 24, .int x1, .int x2, .int x3] [] (p_ev none 96 0 [.ref 24, .int s0] [] w)) ∧
  (∀ (scr : pX) (w : pW) (x1 : Int32) (x2 : Int32) (x3 : Int32) (s0 : Int32), p_ev scr 138 18 [.ref 24, .int x1, .int x2, .int x3] [.int s0] w = p_ev scr 138 19 [.ref 24, .int x1, .int x2, .int x3] [.long s0.toInt64] w) ∧
  (∀ (scr : pX) (w : pW) (x1 : Int32) (x2 : Int32) (x3 : Int32) (t0 : Int64), p_ev scr 138 19 [.ref 24, .int x1, .int x2, .int x3] [.long t0] w = some (.inl (some (.long t0)), w, 0)) ∧
  (∀ (scr : pX) (w : pW) (x1 : Int32) (x2 : Int32) (x3 : Int32), p_ev scr 138 20 [.ref 24, .int x1, .int x2, .int x3] [] w = p_ev scr 138 21 [.ref 24, .int x1, .int x2, .int x3] [.int x2] w) ∧
  (∀ (scr : pX) (w : pW) (x1 : Int32) (x2 : Int32) (x3 : Int32) (s0 : Int32), p_ev scr 138 21 [.ref 24, .int x1, .int x2, .int x3] [.int s0] w = p_ev scr 138 22 [.ref 24, .int x1, .int x2, .int x3] [.int (nI 0), .int s0] w) ∧
  (∀ (scr : pX) (w : pW) (x1 : Int32) (x2 : Int32) (x3 : Int32) (s0 : Int32) (s1 : Int32), p_ev scr 138 22 [.ref 24, .int x1, .int x2, .int x3] [.int s0, .int s1] w = p_ev scr 138 25 [.ref 24, .int x1, .int x2, .int x3] [.int (nI 1000), .int s0, .int s1] w) ∧
  (∀ (scr : pX) (w : pW) (x1 : Int32) (x2 : Int32) (x3 : Int32) (s0 : Int32) (s1 : Int32) (s2 : Int32), p_ev scr 138 25 [.ref 24, .int x1, .int x2, .int x3] [.int s0, .int s1, .int s2] w = p_bnd scr 138 25 28 [.ref 24, .int x1, .int x2, .int x3] [] (p_ev none 97 0 [.int s2, .int s1, .int s0] [] w)) ∧
  (∀ (scr : pX) (w : pW) (x1 : Int32) (x2 : Int32) (x3 : Int32) (s0 : Int32), p_ev scr 138 28 [.ref 24, .int x1, .int x2, .int x3] [.int s0] w = if s0 = nI 0 then p_ev scr 138 41 [.ref 24, .int x1, .int x2, .int x3] [] w else p_ev scr 138 31 [.ref 24, .int x1, .int x2, .int x3] [] w) ∧
  (∀ (scr : pX) (w : pW) (x1 : Int32) (x2 : Int32) (x3 : Int32), p_ev scr 138 31 [.ref 24, .int x1, .int x2, .int x3] [] w = p_ev scr 138 32 [.ref 24, .int x1, .int x2, .int x3] [.int x3] w) ∧
  (∀ (scr : pX) (w : pW) (x1 : Int32) (x2 : Int32) (x3 : Int32) (s0 : Int32), p_ev scr 138 32 [.ref 24, .int x1, .int x2, .int x3] [.int s0] w = p_ev scr 138 33 [.ref 24, .int x1, .int x2, .int x3] [.int (nI 0), .int s0] w) ∧
  (∀ (scr : pX) (w : pW) (x1 : Int32) (x2 : Int32) (x3 : Int32) (s0 : Int32) (s1 : Int32), p_ev scr 138 33 [.ref 24, .int x1, .int x2, .int x3] [.int s0, .int s1] w = p_ev scr 138 35 [.ref 24, .int x1, .int x2, .int x3] [.int (nI 100000), .int s0, .int s1] w) ∧
  (∀ (scr : pX) (w : pW) (x1 : Int32) (x2 : Int32) (x3 : Int32) (s0 : Int32) (s1 : Int32) (s2 : Int32), p_ev scr 138 35 [.ref 24, .int x1, .int x2, .int x3] [.int s0, .int s1, .int s2] w = p_bnd scr 138 35 38 [.ref 24, .int x1, .int x2, .int x3] [] (p_ev none 97 0 [.int s2, .int s1, .int s0] [] w)) ∧
  (∀ (scr : pX) (w : pW) (x1 : Int32) (x2 : Int32) (x3 : Int32) (s0 : Int32), p_ev scr 138 38 [.ref 24, .int x1, .int x2, .int x3] [.int s0] w = if ¬ s0 = nI 0 then p_ev scr 138 48 [.ref 24, .int x1, .int x2, .int x3] [] w else p_ev scr 138 41 [.ref 24, .int x1, .int x2, .int x3] [] w) ∧
  (∀ (scr : pX) (w : pW) (x1 : Int32) (x2 : Int32) (x3 : Int32), p_ev scr 138 41 [.ref 24, .int x1, .int x2, .int x3] [] w = p_ev scr 138 42 [.ref 24, .int x1, .int x2, .int x3] [.ref 24] w) ∧
  (∀ (scr : pX) (w : pW) (x1 : Int32) (x2 : Int32) (x3 : Int32), p_ev scr 138 42 [.ref 24, .int x1, .int x2, .int x3] [.ref 24] w = p_ev scr 138 43 [.ref 24, .int x1, .int x2, .int x3] [.int (nI 2), .ref 24] w) ∧
  (∀ (scr : pX) (w : pW) (x1 : Int32) (x2 : Int32) (x3 : Int32) (s0 : Int32), p_ev scr 138 43 [.ref 24, .int x1, .int x2, .int x3] [.int s0, .ref 24] w = p_bnd scr 138 43 46 [.ref 24, .int x1, .int x2, .int x3] [] (p_ev none 96 0 [.ref 24, .int s0] [] w)) ∧
  (∀ (scr : pX) (w : pW) (x1 : Int32) (x2 : Int32) (x3 : Int32) (s0 : Int32), p_ev scr 138 46 [.ref 24, .int x1, .int x2, .int x3] [.int s0] w = p_ev scr 138 47 [.ref 24, .int x1, .int x2, .int x3] [.long s0.toInt64] w) ∧
  (∀ (scr : pX) (w : pW) (x1 : Int32) (x2 : Int32) (x3 : Int32) (t0 : Int64), p_ev scr 138 47 [.ref 24, .int x1, .int x2, .int x3] [.long t0] w = some (.inl (some (.long t0)), w, 0)) ∧
  (∀ (scr : pX) (w : pW) (x1 : Int32) (x2 : Int32) (x3 : Int32), p_ev scr 138 48 [.ref 24, .int x1, .int x2, .int x3] [] w = p_ev scr 138 49 [.ref 24, .int x1, .int x2, .int x3] [.ref 24] w) ∧
  (∀ (scr : pX) (w : pW) (x1 : Int32) (x2 : Int32) (x3 : Int32), p_ev scr 138 49 [.ref 24, .int x1, .int x2, .int x3] [.ref 24] w = p_ev scr 138 50 [.ref 24, .int x1, .int x2, .int x3] [.int x1, .ref 24] w) ∧
  (∀ (scr : pX) (w : pW) (x1 : Int32) (x2 : Int32) (x3 : Int32) (s0 : Int32), p_ev scr 138 50 [.ref 24, .int x1, .int x2, .int x3] [.int s0, .ref 24] w = p_bnd scr 138 50 53 [.ref 24, .int x1, .int x2, .int x3] [] (p_ev none 129 0 [.ref 24, .int s0] [] w)) ∧
  (∀ (scr : pX) (w : pW) (x1 : Int32) (x2 : Int32) (x3 : Int32) (s0 : Int32), p_ev scr 138 53 [.ref 24, .int x1, .int x2, .int x3] [.int s0] w = if s0 = nI 0 then p_ev scr 138 68 [.ref 24, .int x1, .int x2, .int x3] [] w else p_ev scr 138 56 [.ref 24, .int x1, .int x2, .int x3] [] w) ∧
  (∀ (scr : pX) (w : pW) (x1 : Int32) (x2 : Int32) (x3 : Int32), p_ev scr 138 56 [.ref 24, .int x1, .int x2, .int x3] [] w = p_ev scr 138 57 [.ref 24, .int x1, .int x2, .int x3] [.ref 24] w) ∧
  (∀ (scr : pX) (w : pW) (x1 : Int32) (x2 : Int32) (x3 : Int32), p_ev scr 138 57 [.ref 24, .int x1, .int x2, .int x3] [.ref 24] w = p_ev scr 138 58 [.ref 24, .int x1, .int x2, .int x3] [.int x1, .ref 24] w) ∧
  (∀ (scr : pX) (w : pW) (x1 : Int32) (x2 : Int32) (x3 : Int32) (s0 : Int32), p_ev scr 138 58 [.ref 24, .int x1, .int x2, .int x3] [.int s0, .ref 24] w = p_ev scr 138 59 [.ref 24, .int x1, .int x2, .int x3] [.int x2, .int s0, .ref 24] w) ∧
  (∀ (scr : pX) (w : pW) (x1 : Int32) (x2 : Int32) (x3 : Int32) (s0 : Int32) (s1 : Int32), p_ev scr 138 59 [.ref 24, .int x1, .int x2, .int x3] [.int s0, .int s1, .ref 24] w = p_ev scr 138 60 [.ref 24, .int x1, .int x2, .int x3] [.long s0.toInt64, .int s1, .ref 24] w) ∧
  (∀ (scr : pX) (w : pW) (x1 : Int32) (x2 : Int32) (x3 : Int32) (t0 : Int64) (s1 : Int32), p_ev scr 138 60 [.ref 24, .int x1, .int x2, .int x3] [.long t0, .int s1, .ref 24] w = p_ev scr 138 61 [.ref 24, .int x1, .int x2, .int x3] [.int x3, .long t0, .int s1, .ref 24] w) ∧
  (∀ (scr : pX) (w : pW) (x1 : Int32) (x2 : Int32) (x3 : Int32) (s0 : Int32) (t1 : Int64) (s2 : Int32), p_ev scr 138 61 [.ref 24, .int x1, .int x2, .int x3] [.int s0, .long t1, .int s2, .ref 24] w = p_ev scr 138 62 [.ref 24, .int x1, .int x2, .int x3] [.long s0.toInt64, .long t1, .int s2, .ref 24] w) ∧
  (∀ (scr : pX) (w : pW) (x1 : Int32) (x2 : Int32) (x3 : Int32) (t0 : Int64) (t1 : Int64) (s2 : Int32), p_ev scr 138 62 [.ref 24, .int x1, .int x2, .int x3] [.long t0, .long t1, .int s2, .ref 24] w = p_bnd scr 138 62 65 [.ref 24, .int x1, .int x2, .int x3] [] (p_ev none 137 0 [.ref 24, .int s2, .long t1, p_U, .long t0, p_U, p_U, p_U, p_U, p_U, p_U] [] w)) ∧
  (∀ (scr : pX) (w : pW) (x1 : Int32) (x2 : Int32) (x3 : Int32) (t0 : Int64), p_ev scr 138 65 [.ref 24, .int x1, .int x2, .int x3] [.long t0] w = p_ev scr 138 74 [.ref 24, .int x1, .int x2, .int x3] [.long t0] w) ∧
  (∀ (scr : pX) (w : pW) (x1 : Int32) (x2 : Int32) (x3 : Int32), p_ev scr 138 68 [.ref 24, .int x1, .int x2, .int x3] [] w = p_ev scr 138 69 [.ref 24, .int x1, .int x2, .int x3] [.ref 24] w) ∧
  (∀ (scr : pX) (w : pW) (x1 : Int32) (x2 : Int32) (x3 : Int32), p_ev scr 138 69 [.ref 24, .int x1, .int x2, .int x3] [.ref 24] w = p_ev scr 138 70 [.ref 24, .int x1, .int x2, .int x3] [.int (nI 3), .ref 24] w) ∧
  (∀ (scr : pX) (w : pW) (x1 : Int32) (x2 : Int32) (x3 : Int32) (s0 : Int32), p_ev scr 138 70 [.ref 24, .int x1, .int x2, .int x3] [.int s0, .ref 24] w = p_bnd scr 138 70 73 [.ref 24, .int x1, .int x2, .int x3] [] (p_ev none 96 0 [.ref 24, .int s0] [] w)) ∧
  (∀ (scr : pX) (w : pW) (x1 : Int32) (x2 : Int32) (x3 : Int32) (s0 : Int32), p_ev scr 138 73 [.ref 24, .int x1, .int x2, .int x3] [.int s0] w = p_ev scr 138 74 [.ref 24, .int x1, .int x2, .int x3] [.long s0.toInt64] w) ∧
  (∀ (scr : pX) (w : pW) (x1 : Int32) (x2 : Int32) (x3 : Int32) (t0 : Int64), p_ev scr 138 74 [.ref 24, .int x1, .int x2, .int x3] [.long t0] w = some (.inl (some (.long t0)), w, 0)) :=
  ⟨fun _ _ _ _ _ => p_r (by decide +kernel : p_at 138 0 = some (.aload_n 0)) rfl,
  fun _ _ _ _ _ => p_r (by decide +kernel : p_at 138 1 = some (.iconst 0)) rfl,
  fun _ _ _ _ _ _ => p_rpf (by decide +kernel : p_at 138 2 = some (.putfield 63)) (by decide +kernel : p_fld (p_own 138) 63 = some (5, 4)) (rfl : p_ob 24 = some (.inr (5, [some 25, some 26, none, none, none, some 27, some 28, some 29, some 30, some 31, some 32, some 33, some 34, some 35, some 36, some 37, some 38, some 39, none, none, some 40]))) rfl,
  fun _ _ _ _ _ => p_r (by decide +kernel : p_at 138 5 = some (.aload_n 0)) rfl,
  fun _ _ _ _ _ => p_r (by decide +kernel : p_at 138 6 = some (.iload_n 1)) rfl,
  fun _ _ _ _ _ _ => p_rcv (nl := 2) (by decide +kernel : p_at 138 7 = some (.invokevirtual 135)) (by decide +kernel : p_inv (p_own 138) 135 = some (1, 102, 2)) (by decide +kernel) (rfl : p_ob 24 = some (.inr (5, [some 25, some 26, none, none, none, some 27, some 28, some 29, some 30, some 31, some 32, some 33, some 34, some 35, some 36, some 37, some 38, some 39, none, none, some 40]))) rfl rfl (Nat.le_of_ble_eq_true rfl) (Nat.le_of_ble_eq_true rfl) (Nat.le_of_ble_eq_true rfl) rfl,
  fun _ _ _ _ _ _ => p_rb1 (c := fun x => decide (¬ x = 0)) (off := 10) (by decide +kernel : p_at 138 10 = some (.ifCond .ne 10)) (by decide +kernel) rfl rfl rfl,
  fun _ _ _ _ _ => p_r (by decide +kernel : p_at 138 13 = some (.aload_n 0)) rfl,
  fun _ _ _ _ _ => p_r (by decide +kernel : p_at 138 14 = some (.iconst 1)) rfl,
  fun _ _ _ _ _ _ => p_rcv (nl := 2) (by decide +kernel : p_at 138 15 = some (.invokevirtual 76)) (by decide +kernel : p_inv (p_own 138) 76 = some (1, 96, 2)) (by decide +kernel) (rfl : p_ob 24 = some (.inr (5, [some 25, some 26, none, none, none, some 27, some 28, some 29, some 30, some 31, some 32, some 33, some 34, some 35, some 36, some 37, some 38, some 39, none, none, some 40]))) rfl rfl (Nat.le_of_ble_eq_true rfl) (Nat.le_of_ble_eq_true rfl) (Nat.le_of_ble_eq_true rfl) rfl,
  fun _ _ _ _ _ _ => p_r (by decide +kernel : p_at 138 18 = some (.i2l)) rfl,
  fun _ _ _ _ _ _ => p_rlret (by decide +kernel : p_at 138 19 = some (.lreturn)) (by decide +kernel),
  fun _ _ _ _ _ => p_r (by decide +kernel : p_at 138 20 = some (.iload_n 2)) rfl,
  fun _ _ _ _ _ _ => p_r (by decide +kernel : p_at 138 21 = some (.iconst 0)) rfl,
  fun _ _ _ _ _ _ _ => p_r (by decide +kernel : p_at 138 22 = some (.sipush 1000)) rfl,
  fun _ _ _ _ _ _ _ _ => p_rcs (nl := 3) (by decide +kernel : p_at 138 25 = some (.invokestatic 72)) (by decide +kernel : p_inv (p_own 138) 72 = some (1, 97, 3)) (by decide +kernel) rfl rfl (Nat.le_of_ble_eq_true rfl) (Nat.le_of_ble_eq_true rfl) (Nat.le_of_ble_eq_true rfl) rfl,
  fun _ _ _ _ _ _ => p_rb1 (c := fun x => decide (x = 0)) (off := 13) (by decide +kernel : p_at 138 28 = some (.ifCond .eq 13)) (by decide +kernel) rfl rfl rfl,
  fun _ _ _ _ _ => p_r (by decide +kernel : p_at 138 31 = some (.iload_n 3)) rfl,
  fun _ _ _ _ _ _ => p_r (by decide +kernel : p_at 138 32 = some (.iconst 0)) rfl,
  fun _ _ _ _ _ _ _ => p_rldcI (by decide +kernel : p_at 138 33 = some (.ldc 161)) (by decide +kernel),
  fun _ _ _ _ _ _ _ _ => p_rcs (nl := 3) (by decide +kernel : p_at 138 35 = some (.invokestatic 72)) (by decide +kernel : p_inv (p_own 138) 72 = some (1, 97, 3)) (by decide +kernel) rfl rfl (Nat.le_of_ble_eq_true rfl) (Nat.le_of_ble_eq_true rfl) (Nat.le_of_ble_eq_true rfl) rfl,
  fun _ _ _ _ _ _ => p_rb1 (c := fun x => decide (¬ x = 0)) (off := 10) (by decide +kernel : p_at 138 38 = some (.ifCond .ne 10)) (by decide +kernel) rfl rfl rfl,
  fun _ _ _ _ _ => p_r (by decide +kernel : p_at 138 41 = some (.aload_n 0)) rfl,
  fun _ _ _ _ _ => p_r (by decide +kernel : p_at 138 42 = some (.iconst 2)) rfl,
  fun _ _ _ _ _ _ => p_rcv (nl := 2) (by decide +kernel : p_at 138 43 = some (.invokevirtual 76)) (by decide +kernel : p_inv (p_own 138) 76 = some (1, 96, 2)) (by decide +kernel) (rfl : p_ob 24 = some (.inr (5, [some 25, some 26, none, none, none, some 27, some 28, some 29, some 30, some 31, some 32, some 33, some 34, some 35, some 36, some 37, some 38, some 39, none, none, some 40]))) rfl rfl (Nat.le_of_ble_eq_true rfl) (Nat.le_of_ble_eq_true rfl) (Nat.le_of_ble_eq_true rfl) rfl,
  fun _ _ _ _ _ _ => p_r (by decide +kernel : p_at 138 46 = some (.i2l)) rfl,
  fun _ _ _ _ _ _ => p_rlret (by decide +kernel : p_at 138 47 = some (.lreturn)) (by decide +kernel),
  fun _ _ _ _ _ => p_r (by decide +kernel : p_at 138 48 = some (.aload_n 0)) rfl,
  fun _ _ _ _ _ => p_r (by decide +kernel : p_at 138 49 = some (.iload_n 1)) rfl,
  fun _ _ _ _ _ _ => p_rcv (nl := 2) (by decide +kernel : p_at 138 50 = some (.invokevirtual 166)) (by decide +kernel : p_inv (p_own 138) 166 = some (1, 129, 2)) (by decide +kernel) (rfl : p_ob 24 = some (.inr (5, [some 25, some 26, none, none, none, some 27, some 28, some 29, some 30, some 31, some 32, some 33, some 34, some 35, some 36, some 37, some 38, some 39, none, none, some 40]))) rfl rfl (Nat.le_of_ble_eq_true rfl) (Nat.le_of_ble_eq_true rfl) (Nat.le_of_ble_eq_true rfl) rfl,
  fun _ _ _ _ _ _ => p_rb1 (c := fun x => decide (x = 0)) (off := 15) (by decide +kernel : p_at 138 53 = some (.ifCond .eq 15)) (by decide +kernel) rfl rfl rfl,
  fun _ _ _ _ _ => p_r (by decide +kernel : p_at 138 56 = some (.aload_n 0)) rfl,
  fun _ _ _ _ _ => p_r (by decide +kernel : p_at 138 57 = some (.iload_n 1)) rfl,
  fun _ _ _ _ _ _ => p_r (by decide +kernel : p_at 138 58 = some (.iload_n 2)) rfl,
  fun _ _ _ _ _ _ _ => p_r (by decide +kernel : p_at 138 59 = some (.i2l)) rfl,
  fun _ _ _ _ _ _ _ => p_r (by decide +kernel : p_at 138 60 = some (.iload_n 3)) rfl,
  fun _ _ _ _ _ _ _ _ => p_r (by decide +kernel : p_at 138 61 = some (.i2l)) rfl,
  fun _ _ _ _ _ _ _ _ => p_rcv (nl := 11) (by decide +kernel : p_at 138 62 = some (.invokevirtual 169)) (by decide +kernel : p_inv (p_own 138) 169 = some (1, 137, 4)) (by decide +kernel) (rfl : p_ob 24 = some (.inr (5, [some 25, some 26, none, none, none, some 27, some 28, some 29, some 30, some 31, some 32, some 33, some 34, some 35, some 36, some 37, some 38, some 39, none, none, some 40]))) rfl rfl (Nat.le_of_ble_eq_true rfl) (Nat.le_of_ble_eq_true rfl) (Nat.le_of_ble_eq_true rfl) rfl,
  fun _ _ _ _ _ _ => p_rgo (by decide +kernel : p_at 138 65 = some (.goto 9)) (by decide +kernel),
  fun _ _ _ _ _ => p_r (by decide +kernel : p_at 138 68 = some (.aload_n 0)) rfl,
  fun _ _ _ _ _ => p_r (by decide +kernel : p_at 138 69 = some (.iconst 3)) rfl,
  fun _ _ _ _ _ _ => p_rcv (nl := 2) (by decide +kernel : p_at 138 70 = some (.invokevirtual 76)) (by decide +kernel : p_inv (p_own 138) 76 = some (1, 96, 2)) (by decide +kernel) (rfl : p_ob 24 = some (.inr (5, [some 25, some 26, none, none, none, some 27, some 28, some 29, some 30, some 31, some 32, some 33, some 34, some 35, some 36, some 37, some 38, some 39, none, none, some 40]))) rfl rfl (Nat.le_of_ble_eq_true rfl) (Nat.le_of_ble_eq_true rfl) (Nat.le_of_ble_eq_true rfl) rfl,
  fun _ _ _ _ _ _ => p_r (by decide +kernel : p_at 138 73 = some (.i2l)) rfl,
  fun _ _ _ _ _ _ => p_rlret (by decide +kernel : p_at 138 74 = some (.lreturn)) (by decide +kernel)⟩
-- 139: bestThreshold
theorem M139 :
  (∀ (scr : pX) (w : pW) (x1 : Int32) (x2 : Int32), p_ev scr 139 0 [.ref 24, .int x1, .int x2, p_U, p_U, p_U, p_U, p_U, p_U, p_U, p_U, p_U] [] w = p_ev scr 139 1 [.ref 24, .int x1, .int x2, p_U, p_U, p_U, p_U, p_U, p_U, p_U, p_U, p_U] [.ref 24] w) ∧
  (∀ (scr : pX) (w : pW) (x1 : Int32) (x2 : Int32), p_ev scr 139 1 [.ref 24, .int x1, .int x2, p_U, p_U, p_U, p_U, p_U, p_U, p_U, p_U, p_U] [.ref 24] w = p_ev scr 139 2 [.ref 24, .int x1, .int x2, p_U, p_U, p_U, p_U, p_U, p_U, p_U, p_U, p_U] [.int (nI 0), .ref 24] w) ∧
  (∀ (scr : pX) (w : pW) (x1 : Int32) (x2 : Int32) (s0 : Int32), p_ev scr 139 2 [.ref 24, .int x1, .int x2, p_U, p_U, p_U, p_U, p_U, p_U, p_U, p_U, p_U] [.int s0, .ref 24] w = p_ev scr 139 5 [.ref 24, .int x1, .int x2, p_U, p_U, p_U, p_U, p_U, p_U, p_U, p_U, p_U] [] (p_u w.1 24 4 s0, w.2)) ∧
  (∀ (scr : pX) (w : pW) (x1 : Int32) (x2 : Int32), p_ev scr 139 5 [.ref 24, .int x1, .int x2, p_U, p_U, p_U, p_U, p_U, p_U, p_U, p_U, p_U] [] w = p_ev scr 139 6 [.ref 24, .int x1, .int x2, p_U, p_U, p_U, p_U, p_U, p_U, p_U, p_U, p_U] [.ref 24] w) ∧
  (∀ (scr : pX) (w : pW) (x1 : Int32) (x2 : Int32), p_ev scr 139 6 [.ref 24, .int x1, .int x2, p_U, p_U, p_U, p_U, p_U, p_U, p_U, p_U, p_U] [.ref 24] w = p_ev scr 139 7 [.ref 24, .int x1, .int x2, p_U, p_U, p_U, p_U, p_U, p_U, p_U, p_U, p_U] [.int x1, .ref 24] w) ∧
  (∀ (scr : pX) (w : pW) (x1 : Int32) (x2 : Int32) (s0 : Int32), p_ev scr 139 7 [.ref 24, .int x1, .int x2, p_U, p_U, p_U, p_U, p_U, p_U, p_U, p_U, p_U] [.int s0, .ref 24] w = p_bnd scr 139 7 10 [.ref 24, .int x1, .int x2, p_U, p_U, p_U, p_U, p_U, p_U, p_U, p_U, p_U] [] (p_ev none 102 0 [.ref 24, .int s0] [] w)) ∧
  (∀ (scr : pX) (w : pW) (x1 : Int32) (x2 : Int32) (s0 : Int32), p_ev scr 139 10 [.ref 24, .int x1, .int x2, p_U, p_U, p_U, p_U, p_U, p_U, p_U, p_U, p_U] [.int s0] w = if ¬ s0 = nI 0 then p_ev scr 139 20 [.ref 24, .int x1, .int x2, p_U, p_U, p_U, p_U, p_U, p_U, p_U, p_U, p_U] [] w else p_ev scr 139 13 [.ref 24, .int x1, .int x2, p_U, p_U, p_U, p_U, p_U, p_U, p_U, p_U, p_U] [] w) ∧
  (∀ (scr : pX) (w : pW) (x1 : Int32) (x2 : Int32), p_ev scr 139 13 [.ref 24, .int x1, .int x2, p_U, p_U, p_U, p_U, p_U, p_U, p_U, p_U, p_U] [] w = p_ev scr 139 14 [.ref 24, .int x1, .int x2, p_U, p_U, p_U, p_U, p_U, p_U, p_U, p_U, p_U] [.ref 24] w) ∧
  (∀ (scr : pX) (w : pW) (x1 : Int32) (x2 : Int32), p_ev scr 139 14 [.ref 24, .int x1, .int x2, p_U, p_U, p_U, p_U, p_U, p_U, p_U, p_U, p_U] [.ref 24] w = p_ev scr 139 15 [.ref 24, .int x1, .int x2, p_U, p_U, p_U, p_U, p_U, p_U, p_U, p_U, p_U] [.int (nI 1), .ref 24] w) ∧
  (∀ (scr : pX) (w : pW) (x1 : Int32) (x2 : Int32) (s0 : Int32), p_ev scr 139 15 [.ref 24, .int x1, .int x2, p_U, p_U, p_U, p_U, p_U, p_U, p_U, p_U, p_U] [.int s0, .ref 24] w = p_bnd scr 139 15 18 [.ref 24, .int x1, .int x2, p_U, p_U, p_U, p_U, p_U, p_U, p_U, p_U, p_U] [] (p_ev none 96 0 [.ref 24, .int s0] [] w)) ∧
  (∀ (scr : pX) (w : pW) (x1 : Int32) (x2 : Int32) (s0 : Int32), p_ev scr 139 18 [.ref 24, .int x1, .int x2, p_U, p_U, p_U, p_U, p_U, p_U, p_U, p_U, p_U] [.int s0] w = p_ev scr 139 19 [.ref 24, .int x1, .int x2, p_U, p_U, p_U, p_U, p_U, p_U, p_U, p_U, p_U] [.long s0.toInt64] w) ∧
  (∀ (scr : pX) (w : pW) (x1 : Int32) (x2 : Int32) (t0 : Int64), p_ev scr 139 19 [.ref 24, .int x1, .int x2, p_U, p_U, p_U, p_U, p_U, p_U, p_U, p_U, p_U] [.long t0] w = some (.inl (some (.long t0)), w, 0)) ∧
  (∀ (scr : pX) (w : pW) (x1 : Int32) (x2 : Int32), p_ev scr 139 20 [.ref 24, .int x1, .int x2, p_U, p_U, p_U, p_U, p_U, p_U, p_U, p_U, p_U] [] w = p_ev scr 139 21 [.ref 24, .int x1, .int x2, p_U, p_U, p_U, p_U, p_U, p_U, p_U, p_U, p_U] [.int x2] w) ∧
  (∀ (scr : pX) (w : pW) (x1 : Int32) (x2 : Int32) (s0 : Int32), p_ev scr 139 21 [.ref 24, .int x1, .int x2, p_U, p_U, p_U, p_U, p_U, p_U, p_U, p_U, p_U] [.int s0] w = p_ev scr 139 22 [.ref 24, .int x1, .int x2, p_U, p_U, p_U, p_U, p_U, p_U, p_U, p_U, p_U] [.int (nI 0), .int s0] w) ∧
  (∀ (scr : pX) (w : pW) (x1 : Int32) (x2 : Int32) (s0 : Int32) (s1 : Int32), p_ev scr 139 22 [.ref 24, .int x1, .int x2, p_U, p_U, p_U, p_U, p_U, p_U, p_U, p_U, p_U] [.int s0, .int s1] w = p_ev scr 139 25 [.ref 24, .int x1, .int x2, p_U, p_U, p_U, p_U, p_U, p_U, p_U, p_U, p_U] [.int (nI 1000), .int s0, .int s1] w) ∧
  (∀ (scr : pX) (w : pW) (x1 : Int32) (x2 : Int32) (s0 : Int32) (s1 : Int32) (s2 : Int32), p_ev scr 139 25 [.ref 24, .int x1, .int x2, p_U, p_U, p_U, p_U, p_U, p_U, p_U, p_U, p_U] [.int s0, .int s1, .int s2] w = p_bnd scr 139 25 28 [.ref 24, .int x1, .int x2, p_U, p_U, p_U, p_U, p_U, p_U, p_U, p_U, p_U] [] (p_ev none 97 0 [.int s2, .int s1, .int s0] [] w)) ∧
  (∀ (scr : pX) (w : pW) (x1 : Int32) (x2 : Int32) (s0 : Int32), p_ev scr 139 28 [.ref 24, .int x1, .int x2, p_U, p_U, p_U, p_U, p_U, p_U, p_U, p_U, p_U] [.int s0] w = if ¬ s0 = nI 0 then p_ev scr 139 38 [.ref 24, .int x1, .int x2, p_U, p_U, p_U, p_U, p_U, p_U, p_U, p_U, p_U] [] w else p_ev scr 139 31 [.ref 24, .int x1, .int x2, p_U, p_U, p_U, p_U, p_U, p_U, p_U, p_U, p_U] [] w) ∧
  (∀ (scr : pX) (w : pW) (x1 : Int32) (x2 : Int32), p_ev scr 139 31 [.ref 24, .int x1, .int x2, p_U, p_U, p_U, p_U, p_U, p_U, p_U, p_U, p_U] [] w = p_ev scr 139 32 [.ref 24, .int x1, .int x2, p_U, p_U, p_U, p_U, p_U, p_U, p_U, p_U, p_U] [.ref 24] w) ∧
  (∀ (scr : pX) (w : pW) (x1 : Int32) (x2 : Int32), p_ev scr 139 32 [.ref 24, .int x1, .int x2, p_U, p_U, p_U, p_U, p_U, p_U, p_U, p_U, p_U] [.ref 24] w = p_ev scr 139 33 [.ref 24, .int x1, .int x2, p_U, p_U, p_U, p_U, p_U, p_U, p_U, p_U, p_U] [.int (nI 2), .ref 24] w) ∧
  (∀ (scr : pX) (w : pW) (x1 : Int32) (x2 : Int32) (s0 : Int32), p_ev scr 139 33 [.ref 24, .int x1, .int x2, p_U, p_U, p_U, p_U, p_U, p_U, p_U, p_U, p_U] [.int s0, .ref 24] w = p_bnd scr 139 33 36 [.ref 24, .int x1, .int x2, p_U, p_U, p_U, p_U, p_U, p_U, p_U, p_U, p_U] [] (p_ev none 96 0 [.ref 24, .int s0] [] w)) ∧
  (∀ (scr : pX) (w : pW) (x1 : Int32) (x2 : Int32) (s0 : Int32), p_ev scr 139 36 [.ref 24, .int x1, .int x2, p_U, p_U, p_U, p_U, p_U, p_U, p_U, p_U, p_U] [.int s0] w = p_ev scr 139 37 [.ref 24, .int x1, .int x2, p_U, p_U, p_U, p_U, p_U, p_U, p_U, p_U, p_U] [.long s0.toInt64] w) ∧
  (∀ (scr : pX) (w : pW) (x1 : Int32) (x2 : Int32) (t0 : Int64), p_ev scr 139 37 [.ref 24, .int x1, .int x2, p_U, p_U, p_U, p_U, p_U, p_U, p_U, p_U, p_U] [.long t0] w = some (.inl (some (.long t0)), w, 0)) ∧
  (∀ (scr : pX) (w : pW) (x1 : Int32) (x2 : Int32), p_ev scr 139 38 [.ref 24, .int x1, .int x2, p_U, p_U, p_U, p_U, p_U, p_U, p_U, p_U, p_U] [] w = p_ev scr 139 39 [.ref 24, .int x1, .int x2, p_U, p_U, p_U, p_U, p_U, p_U, p_U, p_U, p_U] [.ref 24] w) ∧
  (∀ (scr : pX) (w : pW) (x1 : Int32) (x2 : Int32), p_ev scr 139 39 [.ref 24, .int x1, .int x2, p_U, p_U, p_U, p_U, p_U, p_U, p_U, p_U, p_U] [.ref 24] w = p_ev scr 139 42 [.ref 24, .int x1, .int x2, p_U, p_U, p_U, p_U, p_U, p_U, p_U, p_U, p_U] [.ref 25] w) ∧
  (∀ (scr : pX) (w : pW) (x1 : Int32) (x2 : Int32), p_ev scr 139 42 [.ref 24, .int x1, .int x2, p_U, p_U, p_U, p_U, p_U, p_U, p_U, p_U, p_U] [.ref 25] w = p_ev scr 139 43 [.ref 24, .int x1, .int x2, p_U, p_U, p_U, p_U, p_U, p_U, p_U, p_U, p_U] [.int x1, .ref 25] w) ∧
  (∀ (scr : pX) (w : pW) (x1 : Int32) (x2 : Int32) (s0 : Int32), p_out s0 16 = false → p_ev scr 139 43 [.ref 24, .int x1, .int x2, p_U, p_U, p_U, p_U, p_U, p_U, p_U, p_U, p_U] [.int s0, .ref 25] w = p_ev scr 139 44 [.ref 24, .int x1, .int x2, p_U, p_U, p_U, p_U, p_U, p_U, p_U, p_U, p_U] [.int (w.2.2 25 s0.toNatClampNeg)] w) ∧
  (∀ (scr : pX) (w : pW) (x1 : Int32) (x2 : Int32) (s0 : Int32), p_ev scr 139 44 [.ref 24, .int x1, .int x2, p_U, p_U, p_U, p_U, p_U, p_U, p_U, p_U, p_U] [.int s0] w = p_ev scr 139 45 [.ref 24, .int x1, .int x2, p_U, p_U, p_U, p_U, p_U, p_U, p_U, p_U, p_U] [.int (nI 1), .int s0] w) ∧
  (∀ (scr : pX) (w : pW) (x1 : Int32) (x2 : Int32) (s0 : Int32) (s1 : Int32), p_ev scr 139 45 [.ref 24, .int x1, .int x2, p_U, p_U, p_U, p_U, p_U, p_U, p_U, p_U, p_U] [.int s0, .int s1] w = if s1 = s0 then p_ev scr 139 55 [.ref 24, .int x1, .int x2, p_U, p_U, p_U, p_U, p_U, p_U, p_U, p_U, p_U] [] w else p_ev scr 139 48 [.ref 24, .int x1, .int x2, p_U, p_U, p_U, p_U, p_U, p_U, p_U, p_U, p_U] [] w) ∧
  (∀ (scr : pX) (w : pW) (x1 : Int32) (x2 : Int32), p_ev scr 139 48 [.ref 24, .int x1, .int x2, p_U, p_U, p_U, p_U, p_U, p_U, p_U, p_U, p_U] [] w = p_ev scr 139 49 [.ref 24, .int x1, .int x2, p_U, p_U, p_U, p_U, p_U, p_U, p_U, p_U, p_U] [.ref 24] w) ∧
  (∀ (scr : pX) (w : pW) (x1 : Int32) (x2 : Int32), p_ev scr 139 49 [.ref 24, .int x1, .int x2, p_U, p_U, p_U, p_U, p_U, p_U, p_U, p_U, p_U] [.ref 24] w = p_ev scr 139 50 [.ref 24, .int x1, .int x2, p_U, p_U, p_U, p_U, p_U, p_U, p_U, p_U, p_U] [.int (nI 3), .ref 24] w) ∧
  (∀ (scr : pX) (w : pW) (x1 : Int32) (x2 : Int32) (s0 : Int32), p_ev scr 139 50 [.ref 24, .int x1, .int x2, p_U, p_U, p_U, p_U, p_U, p_U, p_U, p_U, p_U] [.int s0, .ref 24] w = p_bnd scr 139 50 53 [.ref 24, .int x1, .int x2, p_U, p_U, p_U, p_U, p_U, p_U, p_U, p_U, p_U] [] (p_ev none 96 0 [.ref 24, .int s0] [] w)) ∧
  (∀ (scr : pX) (w : pW) (x1 : Int32) (x2 : Int32) (s0 : Int32), p_ev scr 139 53 [.ref 24, .int x1, .int x2, p_U, p_U, p_U, p_U, p_U, p_U, p_U, p_U, p_U] [.int s0] w = p_ev scr 139 54 [.ref 24, .int x1, .int x2, p_U, p_U, p_U, p_U, p_U, p_U, p_U, p_U, p_U] [.long s0.toInt64] w) ∧
  (∀ (scr : pX) (w : pW) (x1 : Int32) (x2 : Int32) (t0 : Int64), p_ev scr 139 54 [.ref 24, .int x1, .int x2, p_U, p_U, p_U, p_U, p_U, p_U, p_U, p_U, p_U] [.long t0] w = some (.inl (some (.long t0)), w, 0)) ∧
  (∀ (scr : pX) (w : pW) (x1 : Int32) (x2 : Int32), p_ev scr 139 55 [.ref 24, .int x1, .int x2, p_U, p_U, p_U, p_U, p_U, p_U, p_U, p_U, p_U] [] w = p_ev scr 139 56 [.ref 24, .int x1, .int x2, p_U, p_U, p_U, p_U, p_U, p_U, p_U, p_U, p_U] [.long (lN 0)] w) ∧
  (∀ (scr : pX) (w : pW) (x1 : Int32) (x2 : Int32) (t0 : Int64), p_ev scr 139 56 [.ref 24, .int x1, .int x2, p_U, p_U, p_U, p_U, p_U, p_U, p_U, p_U, p_U] [.long t0] w = p_ev scr 139 57 [.ref 24, .int x1, .int x2, .long t0, p_U, p_U, p_U, p_U, p_U, p_U, p_U, p_U] [] w) ∧
  (∀ (scr : pX) (w : pW) (x1 : Int32) (x2 : Int32) (y3 : Int64), p_ev scr 139 57 [.ref 24, .int x1, .int x2, .long y3, p_U, p_U, p_U, p_U, p_U, p_U, p_U, p_U] [] w = p_ev scr 139 58 [.ref 24, .int x1, .int x2, .long y3, p_U, p_U, p_U, p_U, p_U, p_U, p_U, p_U] [.ref 24] w) ∧
  (∀ (scr : pX) (w : pW) (x1 : Int32) (x2 : Int32) (y3 : Int64), p_ev scr 139 58 [.ref 24, .int x1, .int x2, .long y3, p_U, p_U, p_U, p_U, p_U, p_U, p_U, p_U] [.ref 24] w = p_ev scr 139 59 [.ref 24, .int x1, .int x2, .long y3, p_U, p_U, p_U, p_U, p_U, p_U, p_U, p_U] [.int x1, .ref 24] w) ∧
  (∀ (scr : pX) (w : pW) (x1 : Int32) (x2 : Int32) (y3 : Int64) (s0 : Int32), p_ev scr 139 59 [.ref 24, .int x1, .int x2, .long y3, p_U, p_U, p_U, p_U, p_U, p_U, p_U, p_U] [.int s0, .ref 24] w = p_ev scr 139 60 [.ref 24, .int x1, .int x2, .long y3, p_U, p_U, p_U, p_U, p_U, p_U, p_U, p_U] [.int x2, .int s0, .ref 24] w) ∧
  (∀ (scr : pX) (w : pW) (x1 : Int32) (x2 : Int32) (y3 : Int64) (s0 : Int32) (s1 : Int32), p_ev scr 139 60 [.ref 24, .int x1, .int x2, .long y3, p_U, p_U, p_U, p_U, p_U, p_U, p_U, p_U] [.int s0, .int s1, .ref 24] w = p_ev scr 139 61 [.ref 24, .int x1, .int x2, .long y3, p_U, p_U, p_U, p_U, p_U, p_U, p_U, p_U] [.long s0.toInt64, .int s1, .ref 24] w) ∧
  (∀ (scr : pX) (w : pW) (x1 : Int32) (x2 : Int32) (y3 : Int64) (t0 : Int64) (s1 : Int32), p_ev scr 139 61 [.ref 24, .int x1, .int x2, .long y3, p_U, p_U, p_U, p_U, p_U, p_U, p_U, p_U] [.long t0, .int s1, .ref 24] w = p_ev scr 139 62 [.ref 24, .int x1, .int x2, .long y3, p_U, p_U, p_U, p_U, p_U, p_U, p_U, p_U] [.long (lN 0), .long t0, .int s1, .ref 24] w) ∧
  (∀ (scr : pX) (w : pW) (x1 : Int32) (x2 : Int32) (y3 : Int64) (t0 : Int64) (t1 : Int64) (s2 : Int32), p_ev scr 139 62 [.ref 24, .int x1, .int x2, .long y3, p_U, p_U, p_U, p_U, p_U, p_U, p_U, p_U] [.long t0, .long t1, .int s2, .ref 24] w = p_bnd scr 139 62 65 [.ref 24, .int x1, .int x2, .long y3, p_U, p_U, p_U, p_U, p_U, p_U, p_U, p_U] [] (p_ev none 137 0 [.ref 24, .int s2, .long t1, p_U, .long t0, p_U, p_U, p_U, p_U, p_U, p_U] [] w)) ∧
  (∀ (scr : pX) (w : pW) (x1 : Int32) (x2 : Int32) (y3 : Int64) (t0 : Int64), p_ev scr 139 65 [.ref 24, .int x1, .int x2, .long y3, p_U, p_U, p_U, p_U, p_U, p_U, p_U, p_U] [.long t0] w = p_ev scr 139 67 [.ref 24, .int x1, .int x2, .long y3, p_U, .long t0, p_U, p_U, p_U, p_U, p_U, p_U] [] w) ∧
  (∀ (scr : pX) (w : pW) (x1 : Int32) (x2 : Int32) (y3 : Int64) (y5 : Int64), p_ev scr 139 67 [.ref 24, .int x1, .int x2, .long y3, p_U, .long y5, p_U, p_U, p_U, p_U, p_U, p_U] [] w = p_ev scr 139 68 [.ref 24, .int x1, .int x2, .long y3, p_U, .long y5, p_U, p_U, p_U, p_U, p_U, p_U] [.int (nI 0)] w) ∧
  (∀ (scr : pX) (w : pW) (x1 : Int32) (x2 : Int32) (y3 : Int64) (y5 : Int64) (s0 : Int32), p_ev scr 139 68 [.ref 24, .int x1, .int x2, .long y3, p_U, .long y5, p_U, p_U, p_U, p_U, p_U, p_U] [.int s0] w = p_ev scr 139 70 [.ref 24, .int x1, .int x2, .long y3, p_U, .long y5, p_U, .int s0, p_U, p_U, p_U, p_U] [] w) ∧
  (∀ (scr : pX) (w : pW) (x1 : Int32) (x2 : Int32) (y3 : Int64) (y5 : Int64) (x7 : Int32) (z8 : Value) (z10 : Value) (s0 : Int32), p_ev scr 139 72 [.ref 24, .int x1, .int x2, .long y3, p_U, .long y5, p_U, .int x7, z8, p_U, z10, p_U] [.int s0] w = p_ev scr 139 73 [.ref 24, .int x1, .int x2, .long y3, p_U, .long y5, p_U, .int x7, z8, p_U, z10, p_U] [.ref 24, .int s0] w) ∧
  (∀ (scr : pX) (w : pW) (x1 : Int32) (x2 : Int32) (y3 : Int64) (y5 : Int64) (x7 : Int32) (z8 : Value) (z10 : Value) (s1 : Int32), p_ev scr 139 73 [.ref 24, .int x1, .int x2, .long y3, p_U, .long y5, p_U, .int x7, z8, p_U, z10, p_U] [.ref 24, .int s1] w = p_ev scr 139 74 [.ref 24, .int x1, .int x2, .long y3, p_U, .long y5, p_U, .int x7, z8, p_U, z10, p_U] [.int x1, .ref 24, .int s1] w) ∧
  (∀ (scr : pX) (w : pW) (x1 : Int32) (x2 : Int32) (y3 : Int64) (y5 : Int64) (x7 : Int32) (z8 : Value) (z10 : Value) (s0 : Int32) (s2 : Int32), p_ev scr 139 74 [.ref 24, .int x1, .int x2, .long y3, p_U, .long y5, p_U, .int x7, z8, p_U, z10, p_U] [.int s0, .ref 24, .int s2] w = p_bnd scr 139 74 77 [.ref 24, .int x1, .int x2, .long y3, p_U, .long y5, p_U, .int x7, z8, p_U, z10, p_U] [.int s2] (p_ev none 101 0 [.ref 24, .int s0, p_U, p_U] [] w)) ∧
  (∀ (scr : pX) (w : pW) (x1 : Int32) (x2 : Int32) (y3 : Int64) (y5 : Int64) (x7 : Int32) (z8 : Value) (z10 : Value) (s0 : Int32) (s1 : Int32), p_ev scr 139 77 [.ref 24, .int x1, .int x2, .long y3, p_U, .long y5, p_U, .int x7, z8, p_U, z10, p_U] [.int s0, .int s1] w = if s0 ≤ s1 then p_ev scr 139 153 [.ref 24, .int x1, .int x2, .long y3, p_U, .long y5, p_U, .int x7, z8, p_U, z10, p_U] [] w else p_ev scr 139 80 [.ref 24, .int x1, .int x2, .long y3, p_U, .long y5, p_U, .int x7, z8, p_U, z10, p_U] [] w) ∧
  (∀ (scr : pX) (w : pW) (x1 : Int32) (x2 : Int32) (y3 : Int64) (y5 : Int64) (x7 : Int32) (z8 : Value) (z10 : Value), p_ev scr 139 80 [.ref 24, .int x1, .int x2, .long y3, p_U, .long y5, p_U, .int x7, z8, p_U, z10, p_U] [] w = p_ev scr 139 81 [.ref 24, .int x1, .int x2, .long y3, p_U, .long y5, p_U, .int x7, z8, p_U, z10, p_U] [.ref 24] w) ∧
  (∀ (scr : pX) (w : pW) (x1 : Int32) (x2 : Int32) (y3 : Int64) (y5 : Int64) (x7 : Int32) (z8 : Value) (z10 : Value), p_ev scr 139 81 [.ref 24, .int x1, .int x2, .long y3, p_U, .long y5, p_U, .int x7, z8, p_U, z10, p_U] [.ref 24] w = p_ev scr 139 84 [.ref 24, .int x1, .int x2, .long y3, p_U, .long y5, p_U, .int x7, z8, p_U, z10, p_U] [.ref 26] w) ∧
  (∀ (scr : pX) (w : pW) (x1 : Int32) (x2 : Int32) (y3 : Int64) (y5 : Int64) (x7 : Int32) (z8 : Value) (z10 : Value), p_ev scr 139 84 [.ref 24, .int x1, .int x2, .long y3, p_U, .long y5, p_U, .int x7, z8, p_U, z10, p_U] [.ref 26] w = p_ev scr 139 86 [.ref 24, .int x1, .int x2, .long y3, p_U, .long y5, p_U, .int x7, z8, p_U, z10, p_U] [.int (nI 32), .ref 26] w) ∧
  (∀ (scr : pX) (w : pW) (x1 : Int32) (x2 : Int32) (y3 : Int64) (y5 : Int64) (x7 : Int32) (z8 : Value) (z10 : Value) (s0 : Int32), p_ev scr 139 86 [.ref 24, .int x1, .int x2, .long y3, p_U, .long y5, p_U, .int x7, z8, p_U, z10, p_U] [.int s0, .ref 26] w = p_ev scr 139 87 [.ref 24, .int x1, .int x2, .long y3, p_U, .long y5, p_U, .int x7, z8, p_U, z10, p_U] [.int x1, .int s0, .ref 26] w) ∧
  (∀ (scr : pX) (w : pW) (x1 : Int32) (x2 : Int32) (y3 : Int64) (y5 : Int64) (x7 : Int32) (z8 : Value) (z10 : Value) (s0 : Int32) (s1 : Int32), p_ev scr 139 87 [.ref 24, .int x1, .int x2, .long y3, p_U, .long y5, p_U, .int x7, z8, p_U, z10, p_U] [.int s0, .int s1, .ref 26] w = p_ev scr 139 88 [.ref 24, .int x1, .int x2, .long y3, p_U, .long y5, p_U, .int x7, z8, p_U, z10, p_U] [.int (s1 * s0), .ref 26] w) ∧
  (∀ (scr : pX) (w : pW) (x1 : Int32) (x2 : Int32) (y3 : Int64) (y5 : Int64) (x7 : Int32) (z8 : Value) (z10 : Value) (s0 : Int32), p_ev scr 139 88 [.ref 24, .int x1, .int x2, .long y3, p_U, .long y5, p_U, .int x7, z8, p_U, z10, p_U] [.int s0, .ref 26] w = p_ev scr 139 90 [.ref 24, .int x1, .int x2, .long y3, p_U, .long y5, p_U, .int x7, z8, p_U, z10, p_U] [.int x7, .int s0, .ref 26] w) ∧
  (∀ (scr : pX) (w : pW) (x1 : Int32) (x2 : Int32) (y3 : Int64) (y5 : Int64) (x7 : Int32) (z8 : Value) (z10 : Value) (s0 : Int32) (s1 : Int32), p_ev scr 139 90 [.ref 24, .int x1, .int x2, .long y3, p_U, .long y5, p_U, .int x7, z8, p_U, z10, p_U] [.int s0, .int s1, .ref 26] w = p_ev scr 139 91 [.ref 24, .int x1, .int x2, .long y3, p_U, .long y5, p_U, .int x7, z8, p_U, z10, p_U] [.int (s1 + s0), .ref 26] w) ∧
  (∀ (scr : pX) (w : pW) (x1 : Int32) (x2 : Int32) (y3 : Int64) (y5 : Int64) (x7 : Int32) (z8 : Value) (z10 : Value) (s0 : Int32), p_out s0 512 = false → p_ev scr 139 91 [.ref 24, .int x1, .int x2, .long y3, p_U, .long y5, p_U, .int x7, z8, p_U, z10, p_U] [.int s0, .ref 26] w = p_ev scr 139 92 [.ref 24, .int x1, .int x2, .long y3, p_U, .long y5, p_U, .int x7, z8, p_U, z10, p_U] [.long (w.2.1 26 s0.toNatClampNeg)] w) ∧
  (∀ (scr : pX) (w : pW) (x1 : Int32) (x2 : Int32) (y3 : Int64) (y5 : Int64) (x7 : Int32) (z8 : Value) (z10 : Value) (t0 : Int64), p_ev scr 139 92 [.ref 24, .int x1, .int x2, .long y3, p_U, .long y5, p_U, .int x7, z8, p_U, z10, p_U] [.long t0] w = p_bnd scr 139 92 95 [.ref 24, .int x1, .int x2, .long y3, p_U, .long y5, p_U, .int x7, z8, p_U, z10, p_U] [] (p_ev none 98 0 [.long t0, p_U] [] w)) ∧
  (∀ (scr : pX) (w : pW) (x1 : Int32) (x2 : Int32) (y3 : Int64) (y5 : Int64) (x7 : Int32) (z8 : Value) (z10 : Value) (t0 : Int64), p_ev scr 139 95 [.ref 24, .int x1, .int x2, .long y3, p_U, .long y5, p_U, .int x7, z8, p_U, z10, p_U] [.long t0] w = p_ev scr 139 97 [.ref 24, .int x1, .int x2, .long y3, p_U, .long y5, p_U, .int x7, .long t0, p_U, z10, p_U] [] w) ∧
  (∀ (scr : pX) (w : pW) (x1 : Int32) (x2 : Int32) (y3 : Int64) (y5 : Int64) (x7 : Int32) (y8 : Int64) (z10 : Value), p_ev scr 139 97 [.ref 24, .int x1, .int x2, .long y3, p_U, .long y5, p_U, .int x7, .long y8, p_U, z10, p_U] [] w = p_ev scr 139 99 [.ref 24, .int x1, .int x2, .long y3, p_U, .long y5, p_U, .int x7, .long y8, p_U, z10, p_U] [.long y8] w) ∧
  (∀ (scr : pX) (w : pW) (x1 : Int32) (x2 : Int32) (y3 : Int64) (y5 : Int64) (x7 : Int32) (y8 : Int64) (z10 : Value) (t0 : Int64), p_ev scr 139 99 [.ref 24, .int x1, .int x2, .long y3, p_U, .long y5, p_U, .int x7, .long y8, p_U, z10, p_U] [.long t0] w = p_ev scr 139 102 [.ref 24, .int x1, .int x2, .long y3, p_U, .long y5, p_U, .int x7, .long y8, p_U, z10, p_U] [.long (lN 100000), .long t0] w) ∧
  (∀ (scr : pX) (w : pW) (x1 : Int32) (x2 : Int32) (y3 : Int64) (y5 : Int64) (x7 : Int32) (y8 : Int64) (z10 : Value) (t0 : Int64) (t1 : Int64), p_ev scr 139 102 [.ref 24, .int x1, .int x2, .long y3, p_U, .long y5, p_U, .int x7, .long y8, p_U, z10, p_U] [.long t0, .long t1] w = p_ev scr 139 103 [.ref 24, .int x1, .int x2, .long y3, p_U, .long y5, p_U, .int x7, .long y8, p_U, z10, p_U] [.int (lg_cmp t1 t0)] w) ∧
  (∀ (scr : pX) (w : pW) (x1 : Int32) (x2 : Int32) (y3 : Int64) (y5 : Int64) (x7 : Int32) (y8 : Int64) (z10 : Value) (s0 : Int32), p_ev scr 139 103 [.ref 24, .int x1, .int x2, .long y3, p_U, .long y5, p_U, .int x7, .long y8, p_U, z10, p_U] [.int s0] w = if nI 0 < s0 then p_ev scr 139 147 [.ref 24, .int x1, .int x2, .long y3, p_U, .long y5, p_U, .int x7, .long y8, p_U, z10, p_U] [] w else p_ev scr 139 106 [.ref 24, .int x1, .int x2, .long y3, p_U, .long y5, p_U, .int x7, .long y8, p_U, z10, p_U] [] w) ∧
  (∀ (scr : pX) (w : pW) (x1 : Int32) (x2 : Int32) (y3 : Int64) (y5 : Int64) (x7 : Int32) (y8 : Int64) (z10 : Value), p_ev scr 139 106 [.ref 24, .int x1, .int x2, .long y3, p_U, .long y5, p_U, .int x7, .long y8, p_U, z10, p_U] [] w = p_ev scr 139 107 [.ref 24, .int x1, .int x2, .long y3, p_U, .long y5, p_U, .int x7, .long y8, p_U, z10, p_U] [.ref 24] w) ∧
  (∀ (scr : pX) (w : pW) (x1 : Int32) (x2 : Int32) (y3 : Int64) (y5 : Int64) (x7 : Int32) (y8 : Int64) (z10 : Value), p_ev scr 139 107 [.ref 24, .int x1, .int x2, .long y3, p_U, .long y5, p_U, .int x7, .long y8, p_U, z10, p_U] [.ref 24] w = p_ev scr 139 108 [.ref 24, .int x1, .int x2, .long y3, p_U, .long y5, p_U, .int x7, .long y8, p_U, z10, p_U] [.int x1, .ref 24] w) ∧
  (∀ (scr : pX) (w : pW) (x1 : Int32) (x2 : Int32) (y3 : Int64) (y5 : Int64) (x7 : Int32) (y8 : Int64) (z10 : Value) (s0 : Int32), p_ev scr 139 108 [.ref 24, .int x1, .int x2, .long y3, p_U, .long y5, p_U, .int x7, .long y8, p_U, z10, p_U] [.int s0, .ref 24] w = p_ev scr 139 109 [.ref 24, .int x1, .int x2, .long y3, p_U, .long y5, p_U, .int x7, .long y8, p_U, z10, p_U] [.int x2, .int s0, .ref 24] w) ∧
  (∀ (scr : pX) (w : pW) (x1 : Int32) (x2 : Int32) (y3 : Int64) (y5 : Int64) (x7 : Int32) (y8 : Int64) (z10 : Value) (s0 : Int32) (s1 : Int32), p_ev scr 139 109 [.ref 24, .int x1, .int x2, .long y3, p_U, .long y5, p_U, .int x7, .long y8, p_U, z10, p_U] [.int s0, .int s1, .ref 24] w = p_ev scr 139 110 [.ref 24, .int x1, .int x2, .long y3, p_U, .long y5, p_U, .int x7, .long y8, p_U, z10, p_U] [.long s0.toInt64, .int s1, .ref 24] w) ∧
  (∀ (scr : pX) (w : pW) (x1 : Int32) (x2 : Int32) (y3 : Int64) (y5 : Int64) (x7 : Int32) (y8 : Int64) (z10 : Value) (t0 : Int64) (s1 : Int32), p_ev scr 139 110 [.ref 24, .int x1, .int x2, .long y3, p_U, .long y5, p_U, .int x7, .long y8, p_U, z10, p_U] [.long t0, .int s1, .ref 24] w = p_ev scr 139 112 [.ref 24, .int x1, .int x2, .long y3, p_U, .long y5, p_U, .int x7, .long y8, p_U, z10, p_U] [.long y8, .long t0, .int s1, .ref 24] w) ∧
  (∀ (scr : pX) (w : pW) (x1 : Int32) (x2 : Int32) (y3 : Int64) (y5 : Int64) (x7 : Int32) (y8 : Int64) (z10 : Value) (t0 : Int64) (t1 : Int64) (s2 : Int32), p_ev scr 139 112 [.ref 24, .int x1, .int x2, .long y3, p_U, .long y5, p_U, .int x7, .long y8, p_U, z10, p_U] [.long t0, .long t1, .int s2, .ref 24] w = p_bnd scr 139 112 115 [.ref 24, .int x1, .int x2, .long y3, p_U, .long y5, p_U, .int x7, .long y8, p_U, z10, p_U] [] (p_ev none 137 0 [.ref 24, .int s2, .long t1, p_U, .long t0, p_U, p_U, p_U, p_U, p_U, p_U] [] w)) ∧
  (∀ (scr : pX) (w : pW) (x1 : Int32) (x2 : Int32) (y3 : Int64) (y5 : Int64) (x7 : Int32) (y8 : Int64) (z10 : Value) (t0 : Int64), p_ev scr 139 115 [.ref 24, .int x1, .int x2, .long y3, p_U, .long y5, p_U, .int x7, .long y8, p_U, z10, p_U] [.long t0] w = p_ev scr 139 117 [.ref 24, .int x1, .int x2, .long y3, p_U, .long y5, p_U, .int x7, .long y8, p_U, .long t0, p_U] [] w) ∧
  (∀ (scr : pX) (w : pW) (x1 : Int32) (x2 : Int32) (y3 : Int64) (y5 : Int64) (x7 : Int32) (y8 : Int64) (y10 : Int64), p_ev scr 139 117 [.ref 24, .int x1, .int x2, .long y3, p_U, .long y5, p_U, .int x7, .long y8, p_U, .long y10, p_U] [] w = p_ev scr 139 119 [.ref 24, .int x1, .int x2, .long y3, p_U, .long y5, p_U, .int x7, .long y8, p_U, .long y10, p_U] [.long y10] w) ∧
  (∀ (scr : pX) (w : pW) (x1 : Int32) (x2 : Int32) (y3 : Int64) (y5 : Int64) (x7 : Int32) (y8 : Int64) (y10 : Int64) (t0 : Int64), p_ev scr 139 119 [.ref 24, .int x1, .int x2, .long y3, p_U, .long y5, p_U, .int x7, .long y8, p_U, .long y10, p_U] [.long t0] w = p_ev scr 139 121 [.ref 24, .int x1, .int x2, .long y3, p_U, .long y5, p_U, .int x7, .long y8, p_U, .long y10, p_U] [.long y5, .long t0] w) ∧
  (∀ (scr : pX) (w : pW) (x1 : Int32) (x2 : Int32) (y3 : Int64) (y5 : Int64) (x7 : Int32) (y8 : Int64) (y10 : Int64) (t0 : Int64) (t1 : Int64), p_ev scr 139 121 [.ref 24, .int x1, .int x2, .long y3, p_U, .long y5, p_U, .int x7, .long y8, p_U, .long y10, p_U] [.long t0, .long t1] w = p_ev scr 139 122 [.ref 24, .int x1, .int x2, .long y3, p_U, .long y5, p_U, .int x7, .long y8, p_U, .long y10, p_U] [.int (lg_cmp t1 t0)] w) ∧
  (∀ (scr : pX) (w : pW) (x1 : Int32) (x2 : Int32) (y3 : Int64) (y5 : Int64) (x7 : Int32) (y8 : Int64) (y10 : Int64) (s0 : Int32), p_ev scr 139 122 [.ref 24, .int x1, .int x2, .long y3, p_U, .long y5, p_U, .int x7, .long y8, p_U, .long y10, p_U] [.int s0] w = if s0 < nI 0 then p_ev scr 139 140 [.ref 24, .int x1, .int x2, .long y3, p_U, .long y5, p_U, .int x7, .long y8, p_U, .long y10, p_U] [] w else p_ev scr 139 125 [.ref 24, .int x1, .int x2, .long y3, p_U, .long y5, p_U, .int x7, .long y8, p_U, .long y10, p_U] [] w) ∧
  (∀ (scr : pX) (w : pW) (x1 : Int32) (x2 : Int32) (y3 : Int64) (y5 : Int64) (x7 : Int32) (y8 : Int64) (y10 : Int64), p_ev scr 139 125 [.ref 24, .int x1, .int x2, .long y3, p_U, .long y5, p_U, .int x7, .long y8, p_U, .long y10, p_U] [] w = p_ev scr 139 127 [.ref 24, .int x1, .int x2, .long y3, p_U, .long y5, p_U, .int x7, .long y8, p_U, .long y10, p_U] [.long y10] w) ∧
  (∀ (scr : pX) (w : pW) (x1 : Int32) (x2 : Int32) (y3 : Int64) (y5 : Int64) (x7 : Int32) (y8 : Int64) (y10 : Int64) (t0 : Int64), p_ev scr 139 127 [.ref 24, .int x1, .int x2, .long y3, p_U, .long y5, p_U, .int x7, .long y8, p_U, .long y10, p_U] [.long t0] w = p_ev scr 139 129 [.ref 24, .int x1, .int x2, .long y3, p_U, .long y5, p_U, .int x7, .long y8, p_U, .long y10, p_U] [.long y5, .long t0] w) ∧
  (∀ (scr : pX) (w : pW) (x1 : Int32) (x2 : Int32) (y3 : Int64) (y5 : Int64) (x7 : Int32) (y8 : Int64) (y10 : Int64) (t0 : Int64) (t1 : Int64), p_ev scr 139 129 [.ref 24, .int x1, .int x2, .long y3, p_U, .long y5, p_U, .int x7, .long y8, p_U, .long y10, p_U] [.long t0, .long t1] w = p_ev scr 139 130 [.ref 24, .int x1, .int x2, .long y3, p_U, .long y5, p_U, .int x7, .long y8, p_U, .long y10, p_U] [.int (lg_cmp t1 t0)] w) ∧
  (∀ (scr : pX) (w : pW) (x1 : Int32) (x2 : Int32) (y3 : Int64) (y5 : Int64) (x7 : Int32) (y8 : Int64) (y10 : Int64) (s0 : Int32), p_ev scr 139 130 [.ref 24, .int x1, .int x2, .long y3, p_U, .long y5, p_U, .int x7, .long y8, p_U, .long y10, p_U] [.int s0] w = if ¬ s0 = nI 0 then p_ev scr 139 147 [.ref 24, .int x1, .int x2, .long y3, p_U, .long y5, p_U, .int x7, .long y8, p_U, .long y10, p_U] [] w else p_ev scr 139 133 [.ref 24, .int x1, .int x2, .long y3, p_U, .long y5, p_U, .int x7, .long y8, p_U, .long y10, p_U] [] w) ∧
  (∀ (scr : pX) (w : pW) (x1 : Int32) (x2 : Int32) (y3 : Int64) (y5 : Int64) (x7 : Int32) (y8 : Int64) (y10 : Int64), p_ev scr 139 133 [.ref 24, .int x1, .int x2, .long y3, p_U, .long y5, p_U, .int x7, .long y8, p_U, .long y10, p_U] [] w = p_ev scr 139 135 [.ref 24, .int x1, .int x2, .long y3, p_U, .long y5, p_U, .int x7, .long y8, p_U, .long y10, p_U] [.long y8] w) ∧
  (∀ (scr : pX) (w : pW) (x1 : Int32) (x2 : Int32) (y3 : Int64) (y5 : Int64) (x7 : Int32) (y8 : Int64) (y10 : Int64) (t0 : Int64), p_ev scr 139 135 [.ref 24, .int x1, .int x2, .long y3, p_U, .long y5, p_U, .int x7, .long y8, p_U, .long y10, p_U] [.long t0] w = p_ev scr 139 136 [.ref 24, .int x1, .int x2, .long y3, p_U, .long y5, p_U, .int x7, .long y8, p_U, .long y10, p_U] [.long y3, .long t0] w) ∧
  (∀ (scr : pX) (w : pW) (x1 : Int32) (x2 : Int32) (y3 : Int64) (y5 : Int64) (x7 : Int32) (y8 : Int64) (y10 : Int64) (t0 : Int64) (t1 : Int64), p_ev scr 139 136 [.ref 24, .int x1, .int x2, .long y3, p_U, .long y5, p_U, .int x7, .long y8, p_U, .long y10, p_U] [.long t0, .long t1] w = p_ev scr 139 137 [.ref 24, .int x1, .int x2, .long y3, p_U, .long y5, p_U, .int x7, .long y8, p_U, .long y10, p_U] [.int (lg_cmp t1 t0)] w) ∧
  (∀ (scr : pX) (w : pW) (x1 : Int32) (x2 : Int32) (y3 : Int64) (y5 : Int64) (x7 : Int32) (y8 : Int64) (y10 : Int64) (s0 : Int32), p_ev scr 139 137 [.ref 24, .int x1, .int x2, .long y3, p_U, .long y5, p_U, .int x7, .long y8, p_U, .long y10, p_U] [.int s0] w = if nI 0 ≤ s0 then p_ev scr 139 147 [.ref 24, .int x1, .int x2, .long y3, p_U, .long y5, p_U, .int x7, .long y8, p_U, .long y10, p_U] [] w else p_ev scr 139 140 [.ref 24, .int x1, .int x2, .long y3, p_U, .long y5, p_U, .int x7, .long y8, p_U, .long y10, p_U] [] w) ∧
  (∀ (scr : pX) (w : pW) (x1 : Int32) (x2 : Int32) (y3 : Int64) (y5 : Int64) (x7 : Int32) (y8 : Int64) (y10 : Int64), p_ev scr 139 140 [.ref 24, .int x1, .int x2, .long y3, p_U, .long y5, p_U, .int x7, .long y8, p_U, .long y10, p_U] [] w = p_ev scr 139 142 [.ref 24, .int x1, .int x2, .long y3, p_U, .long y5, p_U, .int x7, .long y8, p_U, .long y10, p_U] [.long y8] w) ∧
  (∀ (scr : pX) (w : pW) (x1 : Int32) (x2 : Int32) (y3 : Int64) (y5 : Int64) (x7 : Int32) (y8 : Int64) (y10 : Int64) (t0 : Int64), p_ev scr 139 142 [.ref 24, .int x1, .int x2, .long y3, p_U, .long y5, p_U, .int x7, .long y8, p_U, .long y10, p_U] [.long t0] w = p_ev scr 139 143 [.ref 24, .int x1, .int x2, .long t0, p_U, .long y5, p_U, .int x7, .long y8, p_U, .long y10, p_U] [] w) ∧
  (∀ (scr : pX) (w : pW) (x1 : Int32) (x2 : Int32) (y3 : Int64) (y5 : Int64) (x7 : Int32) (y8 : Int64) (y10 : Int64), p_ev scr 139 143 [.ref 24, .int x1, .int x2, .long y3, p_U, .long y5, p_U, .int x7, .long y8, p_U, .long y10, p_U] [] w = p_ev scr 139 145 [.ref 24, .int x1, .int x2, .long y3, p_U, .long y5, p_U, .int x7, .long y8, p_U, .long y10, p_U] [.long y10] w) ∧
  (∀ (scr : pX) (w : pW) (x1 : Int32) (x2 : Int32) (y3 : Int64) (y5 : Int64) (x7 : Int32) (y8 : Int64) (y10 : Int64) (t0 : Int64), p_ev scr 139 145 [.ref 24, .int x1, .int x2, .long y3, p_U, .long y5, p_U, .int x7, .long y8, p_U, .long y10, p_U] [.long t0] w = p_ev scr 139 147 [.ref 24, .int x1, .int x2, .long y3, p_U, .long t0, p_U, .int x7, .long y8, p_U, .long y10, p_U] [] w) ∧
  (∀ (scr : pX) (w : pW) (x1 : Int32) (x2 : Int32) (y3 : Int64) (y5 : Int64) (x7 : Int32) (y8 : Int64) (z10 : Value), p_ev scr 139 147 [.ref 24, .int x1, .int x2, .long y3, p_U, .long y5, p_U, .int x7, .long y8, p_U, z10, p_U] [] w = p_ev scr 139 150 [.ref 24, .int x1, .int x2, .long y3, p_U, .long y5, p_U, .int (x7 + (nI 1)), .long y8, p_U, z10, p_U] [] w) ∧
  (∀ (scr : pX) (w : pW) (x1 : Int32) (x2 : Int32) (y3 : Int64) (y5 : Int64) (x7 : Int32) (y8 : Int64) (z10 : Value), p_ev scr 139 150 [.ref 24, .int x1, .int x2, .long y3, p_U, .long y5, p_U, .int x7, .long y8, p_U, z10, p_U] [] w = p_ev scr 139 70 [.ref 24, .int x1, .int x2, .long y3, p_U, .long y5, p_U, .int x7, .long y8, p_U, z10, p_U] [] w) ∧
  (∀ (scr : pX) (w : pW) (x1 : Int32) (x2 : Int32) (y3 : Int64) (y5 : Int64) (x7 : Int32) (z8 : Value) (z10 : Value), p_ev scr 139 153 [.ref 24, .int x1, .int x2, .long y3, p_U, .long y5, p_U, .int x7, z8, p_U, z10, p_U] [] w = p_ev scr 139 154 [.ref 24, .int x1, .int x2, .long y3, p_U, .long y5, p_U, .int x7, z8, p_U, z10, p_U] [.long y3] w) ∧
  (∀ (scr : pX) (w : pW) (x1 : Int32) (x2 : Int32) (y3 : Int64) (y5 : Int64) (x7 : Int32) (z8 : Value) (z10 : Value) (t0 : Int64), p_ev scr 139 154 [.ref 24, .int x1, .int x2, .long y3, p_U, .long y5, p_U, .int x7, z8, p_U, z10, p_U] [.long t0] w = some (.inl (some (.long t0)), w, 0)) :=
  ⟨fun _ _ _ _ => p_r (by decide +kernel : p_at 139 0 = some (.aload_n 0)) rfl,
  fun _ _ _ _ => p_r (by decide +kernel : p_at 139 1 = some (.iconst 0)) rfl,
  fun _ _ _ _ _ => p_rpf (by decide +kernel : p_at 139 2 = some (.putfield 63)) (by decide +kernel : p_fld (p_own 139) 63 = some (5, 4)) (rfl : p_ob 24 = some (.inr (5, [some 25, some 26, none, none, none, some 27, some 28, some 29, some 30, some 31, some 32, some 33, some 34, some 35, some 36, some 37, some 38, some 39, none, none, some 40]))) rfl,
  fun _ _ _ _ => p_r (by decide +kernel : p_at 139 5 = some (.aload_n 0)) rfl,
  fun _ _ _ _ => p_r (by decide +kernel : p_at 139 6 = some (.iload_n 1)) rfl,
  fun _ _ _ _ _ => p_rcv (nl := 2) (by decide +kernel : p_at 139 7 = some (.invokevirtual 135)) (by decide +kernel : p_inv (p_own 139) 135 = some (1, 102, 2)) (by decide +kernel) (rfl : p_ob 24 = some (.inr (5, [some 25, some 26, none, none, none, some 27, some 28, some 29, some 30, some 31, some 32, some 33, some 34, some 35, some 36, some 37, some 38, some 39, none, none, some 40]))) rfl rfl (Nat.le_of_ble_eq_true rfl) (Nat.le_of_ble_eq_true rfl) (Nat.le_of_ble_eq_true rfl) rfl,
  fun _ _ _ _ _ => p_rb1 (c := fun x => decide (¬ x = 0)) (off := 10) (by decide +kernel : p_at 139 10 = some (.ifCond .ne 10)) (by decide +kernel) rfl rfl rfl,
  fun _ _ _ _ => p_r (by decide +kernel : p_at 139 13 = some (.aload_n 0)) rfl,
  fun _ _ _ _ => p_r (by decide +kernel : p_at 139 14 = some (.iconst 1)) rfl,
  fun _ _ _ _ _ => p_rcv (nl := 2) (by decide +kernel : p_at 139 15 = some (.invokevirtual 76)) (by decide +kernel : p_inv (p_own 139) 76 = some (1, 96, 2)) (by decide +kernel) (rfl : p_ob 24 = some (.inr (5, [some 25, some 26, none, none, none, some 27, some 28, some 29, some 30, some 31, some 32, some 33, some 34, some 35, some 36, some 37, some 38, some 39, none, none, some 40]))) rfl rfl (Nat.le_of_ble_eq_true rfl) (Nat.le_of_ble_eq_true rfl) (Nat.le_of_ble_eq_true rfl) rfl,
  fun _ _ _ _ _ => p_r (by decide +kernel : p_at 139 18 = some (.i2l)) rfl,
  fun _ _ _ _ _ => p_rlret (by decide +kernel : p_at 139 19 = some (.lreturn)) (by decide +kernel),
  fun _ _ _ _ => p_r (by decide +kernel : p_at 139 20 = some (.iload_n 2)) rfl,
  fun _ _ _ _ _ => p_r (by decide +kernel : p_at 139 21 = some (.iconst 0)) rfl,
  fun _ _ _ _ _ _ => p_r (by decide +kernel : p_at 139 22 = some (.sipush 1000)) rfl,
  fun _ _ _ _ _ _ _ => p_rcs (nl := 3) (by decide +kernel : p_at 139 25 = some (.invokestatic 72)) (by decide +kernel : p_inv (p_own 139) 72 = some (1, 97, 3)) (by decide +kernel) rfl rfl (Nat.le_of_ble_eq_true rfl) (Nat.le_of_ble_eq_true rfl) (Nat.le_of_ble_eq_true rfl) rfl,
  fun _ _ _ _ _ => p_rb1 (c := fun x => decide (¬ x = 0)) (off := 10) (by decide +kernel : p_at 139 28 = some (.ifCond .ne 10)) (by decide +kernel) rfl rfl rfl,
  fun _ _ _ _ => p_r (by decide +kernel : p_at 139 31 = some (.aload_n 0)) rfl,
  fun _ _ _ _ => p_r (by decide +kernel : p_at 139 32 = some (.iconst 2)) rfl,
  fun _ _ _ _ _ => p_rcv (nl := 2) (by decide +kernel : p_at 139 33 = some (.invokevirtual 76)) (by decide +kernel : p_inv (p_own 139) 76 = some (1, 96, 2)) (by decide +kernel) (rfl : p_ob 24 = some (.inr (5, [some 25, some 26, none, none, none, some 27, some 28, some 29, some 30, some 31, some 32, some 33, some 34, some 35, some 36, some 37, some 38, some 39, none, none, some 40]))) rfl rfl (Nat.le_of_ble_eq_true rfl) (Nat.le_of_ble_eq_true rfl) (Nat.le_of_ble_eq_true rfl) rfl,
  fun _ _ _ _ _ => p_r (by decide +kernel : p_at 139 36 = some (.i2l)) rfl,
  fun _ _ _ _ _ => p_rlret (by decide +kernel : p_at 139 37 = some (.lreturn)) (by decide +kernel),
  fun _ _ _ _ => p_r (by decide +kernel : p_at 139 38 = some (.aload_n 0)) rfl,
  fun _ _ _ _ => p_rgf (f := some 25) (by decide +kernel : p_at 139 39 = some (.getfield 7)) (by decide +kernel : p_fld (p_own 139) 7 = some (5, 0)) (rfl : p_ob 24 = some (.inr (5, [some 25, some 26, none, none, none, some 27, some 28, some 29, some 30, some 31, some 32, some 33, some 34, some 35, some 36, some 37, some 38, some 39, none, none, some 40]))) rfl,
  fun _ _ _ _ => p_r (by decide +kernel : p_at 139 42 = some (.iload_n 1)) rfl,
  fun _ _ _ _ _ hp => p_riald (by decide +kernel : p_at 139 43 = some (.iaload)) (rfl : p_ob 25 = some (.inl (1, 16))) hp,
  fun _ _ _ _ _ => p_r (by decide +kernel : p_at 139 44 = some (.iconst 1)) rfl,
  fun _ _ _ _ _ _ => p_rb2 (c := fun x y => decide (x = y)) (off := 10) (by decide +kernel : p_at 139 45 = some (.if_icmp .eq 10)) (by decide +kernel) rfl rfl rfl,
  fun _ _ _ _ => p_r (by decide +kernel : p_at 139 48 = some (.aload_n 0)) rfl,
  fun _ _ _ _ => p_r (by decide +kernel : p_at 139 49 = some (.iconst 3)) rfl,
  fun _ _ _ _ _ => p_rcv (nl := 2) (by decide +kernel : p_at 139 50 = some (.invokevirtual 76)) (by decide +kernel : p_inv (p_own 139) 76 = some (1, 96, 2)) (by decide +kernel) (rfl : p_ob 24 = some (.inr (5, [some 25, some 26, none, none, none, some 27, some 28, some 29, some 30, some 31, some 32, some 33, some 34, some 35, some 36, some 37, some 38, some 39, none, none, some 40]))) rfl rfl (Nat.le_of_ble_eq_true rfl) (Nat.le_of_ble_eq_true rfl) (Nat.le_of_ble_eq_true rfl) rfl,
  fun _ _ _ _ _ => p_r (by decide +kernel : p_at 139 53 = some (.i2l)) rfl,
  fun _ _ _ _ _ => p_rlret (by decide +kernel : p_at 139 54 = some (.lreturn)) (by decide +kernel),
  fun _ _ _ _ => p_r (by decide +kernel : p_at 139 55 = some (.lconst 0)) rfl,
  fun _ _ _ _ _ => p_r (by decide +kernel : p_at 139 56 = some (.lstore_n 3)) rfl,
  fun _ _ _ _ _ => p_r (by decide +kernel : p_at 139 57 = some (.aload_n 0)) rfl,
  fun _ _ _ _ _ => p_r (by decide +kernel : p_at 139 58 = some (.iload_n 1)) rfl,
  fun _ _ _ _ _ _ => p_r (by decide +kernel : p_at 139 59 = some (.iload_n 2)) rfl,
  fun _ _ _ _ _ _ _ => p_r (by decide +kernel : p_at 139 60 = some (.i2l)) rfl,
  fun _ _ _ _ _ _ _ => p_r (by decide +kernel : p_at 139 61 = some (.lconst 0)) rfl,
  fun _ _ _ _ _ _ _ _ => p_rcv (nl := 11) (by decide +kernel : p_at 139 62 = some (.invokevirtual 169)) (by decide +kernel : p_inv (p_own 139) 169 = some (1, 137, 4)) (by decide +kernel) (rfl : p_ob 24 = some (.inr (5, [some 25, some 26, none, none, none, some 27, some 28, some 29, some 30, some 31, some 32, some 33, some 34, some 35, some 36, some 37, some 38, some 39, none, none, some 40]))) rfl rfl (Nat.le_of_ble_eq_true rfl) (Nat.le_of_ble_eq_true rfl) (Nat.le_of_ble_eq_true rfl) rfl,
  fun _ _ _ _ _ _ => p_r (by decide +kernel : p_at 139 65 = some (.lstore 5)) rfl,
  fun _ _ _ _ _ _ => p_r (by decide +kernel : p_at 139 67 = some (.iconst 0)) rfl,
  fun _ _ _ _ _ _ _ => p_r (by decide +kernel : p_at 139 68 = some (.istore 7)) rfl,
  fun _ _ _ _ _ _ _ _ _ _ => p_r (by decide +kernel : p_at 139 72 = some (.aload_n 0)) rfl,
  fun _ _ _ _ _ _ _ _ _ _ => p_r (by decide +kernel : p_at 139 73 = some (.iload_n 1)) rfl,
  fun _ _ _ _ _ _ _ _ _ _ _ => p_rcv (nl := 4) (by decide +kernel : p_at 139 74 = some (.invokevirtual 113)) (by decide +kernel : p_inv (p_own 139) 113 = some (1, 101, 2)) (by decide +kernel) (rfl : p_ob 24 = some (.inr (5, [some 25, some 26, none, none, none, some 27, some 28, some 29, some 30, some 31, some 32, some 33, some 34, some 35, some 36, some 37, some 38, some 39, none, none, some 40]))) rfl rfl (Nat.le_of_ble_eq_true rfl) (Nat.le_of_ble_eq_true rfl) (Nat.le_of_ble_eq_true rfl) rfl,
  fun _ _ _ _ _ _ _ _ _ _ _ => p_rb2 (c := fun x y => decide (y ≤ x)) (off := 76) (by decide +kernel : p_at 139 77 = some (.if_icmp .ge 76)) (by decide +kernel) rfl rfl rfl,
  fun _ _ _ _ _ _ _ _ _ => p_r (by decide +kernel : p_at 139 80 = some (.aload_n 0)) rfl,
  fun _ _ _ _ _ _ _ _ _ => p_rgf (f := some 26) (by decide +kernel : p_at 139 81 = some (.getfield 13)) (by decide +kernel : p_fld (p_own 139) 13 = some (5, 1)) (rfl : p_ob 24 = some (.inr (5, [some 25, some 26, none, none, none, some 27, some 28, some 29, some 30, some 31, some 32, some 33, some 34, some 35, some 36, some 37, some 38, some 39, none, none, some 40]))) rfl,
  fun _ _ _ _ _ _ _ _ _ => p_r (by decide +kernel : p_at 139 84 = some (.bipush 32)) rfl,
  fun _ _ _ _ _ _ _ _ _ _ => p_r (by decide +kernel : p_at 139 86 = some (.iload_n 1)) rfl,
  fun _ _ _ _ _ _ _ _ _ _ _ => p_r (by decide +kernel : p_at 139 87 = some (.imul)) rfl,
  fun _ _ _ _ _ _ _ _ _ _ => p_r (by decide +kernel : p_at 139 88 = some (.iload 7)) rfl,
  fun _ _ _ _ _ _ _ _ _ _ _ => p_r (by decide +kernel : p_at 139 90 = some (.iadd)) rfl,
  fun _ _ _ _ _ _ _ _ _ _ hp => p_rlald (by decide +kernel : p_at 139 91 = some (.laload)) (rfl : p_ob 26 = some (.inl (2, 512))) hp,
  fun _ _ _ _ _ _ _ _ _ _ => p_rcs (nl := 2) (by decide +kernel : p_at 139 92 = some (.invokestatic 66)) (by decide +kernel : p_inv (p_own 139) 66 = some (1, 98, 1)) (by decide +kernel) rfl rfl (Nat.le_of_ble_eq_true rfl) (Nat.le_of_ble_eq_true rfl) (Nat.le_of_ble_eq_true rfl) rfl,
  fun _ _ _ _ _ _ _ _ _ _ => p_r (by decide +kernel : p_at 139 95 = some (.lstore 8)) rfl,
  fun _ _ _ _ _ _ _ _ _ => p_r (by decide +kernel : p_at 139 97 = some (.lload 8)) rfl,
  fun _ _ _ _ _ _ _ _ _ _ => p_rldcJ (by decide +kernel : p_at 139 99 = some (.ldc2_w 173)) (by decide +kernel),
  fun _ _ _ _ _ _ _ _ _ _ _ => p_r (by decide +kernel : p_at 139 102 = some (.lcmp)) rfl,
  fun _ _ _ _ _ _ _ _ _ _ => p_rb1 (c := fun x => decide (0 < x)) (off := 44) (by decide +kernel : p_at 139 103 = some (.ifCond .gt 44)) (by decide +kernel) rfl rfl rfl,
  fun _ _ _ _ _ _ _ _ _ => p_r (by decide +kernel : p_at 139 106 = some (.aload_n 0)) rfl,
  fun _ _ _ _ _ _ _ _ _ => p_r (by decide +kernel : p_at 139 107 = some (.iload_n 1)) rfl,
  fun _ _ _ _ _ _ _ _ _ _ => p_r (by decide +kernel : p_at 139 108 = some (.iload_n 2)) rfl,
  fun _ _ _ _ _ _ _ _ _ _ _ => p_r (by decide +kernel : p_at 139 109 = some (.i2l)) rfl,
  fun _ _ _ _ _ _ _ _ _ _ _ => p_r (by decide +kernel : p_at 139 110 = some (.lload 8)) rfl,
  fun _ _ _ _ _ _ _ _ _ _ _ _ => p_rcv (nl := 11) (by decide +kernel : p_at 139 112 = some (.invokevirtual 169)) (by decide +kernel : p_inv (p_own 139) 169 = some (1, 137, 4)) (by decide +kernel) (rfl : p_ob 24 = some (.inr (5, [some 25, some 26, none, none, none, some 27, some 28, some 29, some 30, some 31, some 32, some 33, some 34, some 35, some 36, some 37, some 38, some 39, none, none, some 40]))) rfl rfl (Nat.le_of_ble_eq_true rfl) (Nat.le_of_ble_eq_true rfl) (Nat.le_of_ble_eq_true rfl) rfl,
  fun _ _ _ _ _ _ _ _ _ _ => p_r (by decide +kernel : p_at 139 115 = some (.lstore 10)) rfl,
  fun _ _ _ _ _ _ _ _ _ => p_r (by decide +kernel : p_at 139 117 = some (.lload 10)) rfl,
  fun _ _ _ _ _ _ _ _ _ _ => p_r (by decide +kernel : p_at 139 119 = some (.lload 5)) rfl,
  fun _ _ _ _ _ _ _ _ _ _ _ => p_r (by decide +kernel : p_at 139 121 = some (.lcmp)) rfl,
  fun _ _ _ _ _ _ _ _ _ _ => p_rb1 (c := fun x => decide (x < 0)) (off := 18) (by decide +kernel : p_at 139 122 = some (.ifCond .lt 18)) (by decide +kernel) rfl rfl rfl,
  fun _ _ _ _ _ _ _ _ _ => p_r (by decide +kernel : p_at 139 125 = some (.lload 10)) rfl,
  fun _ _ _ _ _ _ _ _ _ _ => p_r (by decide +kernel : p_at 139 127 = some (.lload 5)) rfl,
  fun _ _ _ _ _ _ _ _ _ _ _ => p_r (by decide +kernel : p_at 139 129 = some (.lcmp)) rfl,
  fun _ _ _ _ _ _ _ _ _ _ => p_rb1 (c := fun x => decide (¬ x = 0)) (off := 17) (by decide +kernel : p_at 139 130 = some (.ifCond .ne 17)) (by decide +kernel) rfl rfl rfl,
  fun _ _ _ _ _ _ _ _ _ => p_r (by decide +kernel : p_at 139 133 = some (.lload 8)) rfl,
  fun _ _ _ _ _ _ _ _ _ _ => p_r (by decide +kernel : p_at 139 135 = some (.lload_n 3)) rfl,
  fun _ _ _ _ _ _ _ _ _ _ _ => p_r (by decide +kernel : p_at 139 136 = some (.lcmp)) rfl,
  fun _ _ _ _ _ _ _ _ _ _ => p_rb1 (c := fun x => decide (0 ≤ x)) (off := 10) (by decide +kernel : p_at 139 137 = some (.ifCond .ge 10)) (by decide +kernel) rfl rfl rfl,
  fun _ _ _ _ _ _ _ _ _ => p_r (by decide +kernel : p_at 139 140 = some (.lload 8)) rfl,
  fun _ _ _ _ _ _ _ _ _ _ => p_r (by decide +kernel : p_at 139 142 = some (.lstore_n 3)) rfl,
  fun _ _ _ _ _ _ _ _ _ => p_r (by decide +kernel : p_at 139 143 = some (.lload 10)) rfl,
  fun _ _ _ _ _ _ _ _ _ _ => p_r (by decide +kernel : p_at 139 145 = some (.lstore 5)) rfl,
  fun _ _ _ _ _ _ _ _ _ => p_r (by decide +kernel : p_at 139 147 = some (.iinc 7 1)) rfl,
  fun _ _ _ _ _ _ _ _ _ => p_rgo (by decide +kernel : p_at 139 150 = some (.goto (-80))) (by decide +kernel),
  fun _ _ _ _ _ _ _ _ _ => p_r (by decide +kernel : p_at 139 153 = some (.lload_n 3)) rfl,
  fun _ _ _ _ _ _ _ _ _ _ => p_rlret (by decide +kernel : p_at 139 154 = some (.lreturn)) (by decide +kernel)⟩
theorem H139_70 :
  (∀ (scr : pX) (w : pW) (x1 : Int32) (x2 : Int32) (y3 : Int64) (y5 : Int64) (x7 : Int32) (z8 : Value) (z10 : Value), p_ev scr 139 70 [.ref 24, .int x1, .int x2, .long y3, p_U, .long y5, p_U, .int x7, z8, p_U, z10, p_U] [] w = p_ev scr 139 72 [.ref 24, .int x1, .int x2, .long y3, p_U, .long y5, p_U, .int x7, z8, p_U, z10, p_U] [.int x7] w) :=
  fun _ _ _ _ _ _ _ _ _ => p_r (by decide +kernel : p_at 139 70 = some (.iload 7)) rfl
-- 140: pyramid
theorem M140 :
  (∀ (scr : pX) (w : pW), p_ev scr 140 0 [.ref 24, p_U, p_U] [] w = p_ev scr 140 1 [.ref 24, p_U, p_U] [.int (nI 1)] w) ∧
  (∀ (scr : pX) (w : pW) (s0 : Int32), p_ev scr 140 1 [.ref 24, p_U, p_U] [.int s0] w = p_ev scr 140 2 [.ref 24, .int s0, p_U] [] w) ∧
  (∀ (scr : pX) (w : pW) (x1 : Int32), p_ev scr 140 2 [.ref 24, .int x1, p_U] [] w = p_ev scr 140 3 [.ref 24, .int x1, p_U] [.int (nI 3)] w) ∧
  (∀ (scr : pX) (w : pW) (x1 : Int32) (s0 : Int32), p_ev scr 140 3 [.ref 24, .int x1, p_U] [.int s0] w = p_ev scr 140 4 [.ref 24, .int x1, .int s0] [] w) ∧
  (∀ (scr : pX) (w : pW) (x1 : Int32) (x2 : Int32) (s0 : Int32), p_ev scr 140 5 [.ref 24, .int x1, .int x2] [.int s0] w = p_ev scr 140 7 [.ref 24, .int x1, .int x2] [.int (nI 16), .int s0] w) ∧
  (∀ (scr : pX) (w : pW) (x1 : Int32) (x2 : Int32) (s0 : Int32) (s1 : Int32), p_ev scr 140 7 [.ref 24, .int x1, .int x2] [.int s0, .int s1] w = if s0 ≤ s1 then p_ev scr 140 34 [.ref 24, .int x1, .int x2] [] w else p_ev scr 140 10 [.ref 24, .int x1, .int x2] [] w) ∧
  (∀ (scr : pX) (w : pW) (x1 : Int32) (x2 : Int32), p_ev scr 140 10 [.ref 24, .int x1, .int x2] [] w = p_ev scr 140 11 [.ref 24, .int x1, .int x2] [.int x1] w) ∧
  (∀ (scr : pX) (w : pW) (x1 : Int32) (x2 : Int32) (s0 : Int32), p_ev scr 140 11 [.ref 24, .int x1, .int x2] [.int s0] w = p_ev scr 140 12 [.ref 24, .int x1, .int x2] [.ref 24, .int s0] w) ∧
  (∀ (scr : pX) (w : pW) (x1 : Int32) (x2 : Int32) (s1 : Int32), p_ev scr 140 12 [.ref 24, .int x1, .int x2] [.ref 24, .int s1] w = p_ev scr 140 15 [.ref 24, .int x1, .int x2] [.ref 25, .int s1] w) ∧
  (∀ (scr : pX) (w : pW) (x1 : Int32) (x2 : Int32) (s1 : Int32), p_ev scr 140 15 [.ref 24, .int x1, .int x2] [.ref 25, .int s1] w = p_ev scr 140 16 [.ref 24, .int x1, .int x2] [.int x2, .ref 25, .int s1] w) ∧
  (∀ (scr : pX) (w : pW) (x1 : Int32) (x2 : Int32) (s0 : Int32) (s2 : Int32), p_out s0 16 = false → p_ev scr 140 16 [.ref 24, .int x1, .int x2] [.int s0, .ref 25, .int s2] w = p_ev scr 140 17 [.ref 24, .int x1, .int x2] [.int (w.2.2 25 s0.toNatClampNeg), .int s2] w) ∧
  (∀ (scr : pX) (w : pW) (x1 : Int32) (x2 : Int32) (s0 : Int32) (s1 : Int32), p_ev scr 140 17 [.ref 24, .int x1, .int x2] [.int s0, .int s1] w = p_ev scr 140 18 [.ref 24, .int x1, .int x2] [.int (nI 2), .int s0, .int s1] w) ∧
  (∀ (scr : pX) (w : pW) (x1 : Int32) (x2 : Int32) (s0 : Int32) (s1 : Int32) (s2 : Int32), p_ev scr 140 18 [.ref 24, .int x1, .int x2] [.int s0, .int s1, .int s2] w = if s1 = s0 then p_ev scr 140 25 [.ref 24, .int x1, .int x2] [.int s2] w else p_ev scr 140 21 [.ref 24, .int x1, .int x2] [.int s2] w) ∧
  (∀ (scr : pX) (w : pW) (x1 : Int32) (x2 : Int32) (s0 : Int32), p_ev scr 140 21 [.ref 24, .int x1, .int x2] [.int s0] w = p_ev scr 140 22 [.ref 24, .int x1, .int x2] [.int (nI 1), .int s0] w) ∧
  (∀ (scr : pX) (w : pW) (x1 : Int32) (x2 : Int32) (s0 : Int32) (s1 : Int32), p_ev scr 140 22 [.ref 24, .int x1, .int x2] [.int s0, .int s1] w = p_ev scr 140 26 [.ref 24, .int x1, .int x2] [.int s0, .int s1] w) ∧
  (∀ (scr : pX) (w : pW) (x1 : Int32) (x2 : Int32) (s0 : Int32), p_ev scr 140 25 [.ref 24, .int x1, .int x2] [.int s0] w = p_ev scr 140 26 [.ref 24, .int x1, .int x2] [.int (nI 0), .int s0] w) ∧
  (∀ (scr : pX) (w : pW) (x1 : Int32) (x2 : Int32) (s0 : Int32) (s1 : Int32), p_ev scr 140 26 [.ref 24, .int x1, .int x2] [.int s0, .int s1] w = p_ev scr 140 27 [.ref 24, .int x1, .int x2] [.int (s1 &&& s0)] w) ∧
  (∀ (scr : pX) (w : pW) (x1 : Int32) (x2 : Int32) (s0 : Int32), p_ev scr 140 27 [.ref 24, .int x1, .int x2] [.int s0] w = p_ev scr 140 28 [.ref 24, .int s0, .int x2] [] w) ∧
  (∀ (scr : pX) (w : pW) (x1 : Int32) (x2 : Int32), p_ev scr 140 28 [.ref 24, .int x1, .int x2] [] w = p_ev scr 140 31 [.ref 24, .int x1, .int (x2 + (nI 2))] [] w) ∧
  (∀ (scr : pX) (w : pW) (x1 : Int32) (x2 : Int32), p_ev scr 140 31 [.ref 24, .int x1, .int x2] [] w = p_ev scr 140 4 [.ref 24, .int x1, .int x2] [] w) ∧
  (∀ (scr : pX) (w : pW) (x1 : Int32) (x2 : Int32), p_ev scr 140 34 [.ref 24, .int x1, .int x2] [] w = p_ev scr 140 35 [.ref 24, .int x1, .int x2] [.int x1] w) ∧
  (∀ (scr : pX) (w : pW) (x1 : Int32) (x2 : Int32) (s0 : Int32), narrow .boolean (.int s0) = .int s0 → p_ev scr 140 35 [.ref 24, .int x1, .int x2] [.int s0] w = some (.inl (some (.int s0)), w, 0)) :=
  ⟨fun _ _ => p_r (by decide +kernel : p_at 140 0 = some (.iconst 1)) rfl,
  fun _ _ _ => p_r (by decide +kernel : p_at 140 1 = some (.istore_n 1)) rfl,
  fun _ _ _ => p_r (by decide +kernel : p_at 140 2 = some (.iconst 3)) rfl,
  fun _ _ _ _ => p_r (by decide +kernel : p_at 140 3 = some (.istore_n 2)) rfl,
  fun _ _ _ _ _ => p_r (by decide +kernel : p_at 140 5 = some (.bipush 16)) rfl,
  fun _ _ _ _ _ _ => p_rb2 (c := fun x y => decide (y ≤ x)) (off := 27) (by decide +kernel : p_at 140 7 = some (.if_icmp .ge 27)) (by decide +kernel) rfl rfl rfl,
  fun _ _ _ _ => p_r (by decide +kernel : p_at 140 10 = some (.iload_n 1)) rfl,
  fun _ _ _ _ _ => p_r (by decide +kernel : p_at 140 11 = some (.aload_n 0)) rfl,
  fun _ _ _ _ _ => p_rgf (f := some 25) (by decide +kernel : p_at 140 12 = some (.getfield 7)) (by decide +kernel : p_fld (p_own 140) 7 = some (5, 0)) (rfl : p_ob 24 = some (.inr (5, [some 25, some 26, none, none, none, some 27, some 28, some 29, some 30, some 31, some 32, some 33, some 34, some 35, some 36, some 37, some 38, some 39, none, none, some 40]))) rfl,
  fun _ _ _ _ _ => p_r (by decide +kernel : p_at 140 15 = some (.iload_n 2)) rfl,
  fun _ _ _ _ _ _ hp => p_riald (by decide +kernel : p_at 140 16 = some (.iaload)) (rfl : p_ob 25 = some (.inl (1, 16))) hp,
  fun _ _ _ _ _ _ => p_r (by decide +kernel : p_at 140 17 = some (.iconst 2)) rfl,
  fun _ _ _ _ _ _ _ => p_rb2 (c := fun x y => decide (x = y)) (off := 7) (by decide +kernel : p_at 140 18 = some (.if_icmp .eq 7)) (by decide +kernel) rfl rfl rfl,
  fun _ _ _ _ _ => p_r (by decide +kernel : p_at 140 21 = some (.iconst 1)) rfl,
  fun _ _ _ _ _ _ => p_rgo (by decide +kernel : p_at 140 22 = some (.goto 4)) (by decide +kernel),
  fun _ _ _ _ _ => p_r (by decide +kernel : p_at 140 25 = some (.iconst 0)) rfl,
  fun _ _ _ _ _ _ => p_r (by decide +kernel : p_at 140 26 = some (.iand)) rfl,
  fun _ _ _ _ _ => p_r (by decide +kernel : p_at 140 27 = some (.istore_n 1)) rfl,
  fun _ _ _ _ => p_r (by decide +kernel : p_at 140 28 = some (.iinc 2 2)) rfl,
  fun _ _ _ _ => p_rgo (by decide +kernel : p_at 140 31 = some (.goto (-27))) (by decide +kernel),
  fun _ _ _ _ => p_r (by decide +kernel : p_at 140 34 = some (.iload_n 1)) rfl,
  fun _ _ _ _ _ hp => p_rzret (by decide +kernel : p_at 140 35 = some (.ireturn)) (by decide +kernel) hp⟩
theorem H140_4 :
  (∀ (scr : pX) (w : pW) (x1 : Int32) (x2 : Int32), p_ev scr 140 4 [.ref 24, .int x1, .int x2] [] w = p_ev scr 140 5 [.ref 24, .int x1, .int x2] [.int x2] w) :=
  fun _ _ _ _ => p_r (by decide +kernel : p_at 140 4 = some (.iload_n 2)) rfl
-- 141: isPyramid
theorem M141 :
  (∀ (scr : pX) (w : pW), p_ev scr 141 0 [.ref 24] [] w = p_ev scr 141 1 [.ref 24] [.ref 24] w) ∧
  (∀ (scr : pX) (w : pW), p_ev scr 141 1 [.ref 24] [.ref 24] w = p_ev scr 141 2 [.ref 24] [.int (nI 0), .ref 24] w) ∧
  (∀ (scr : pX) (w : pW) (s0 : Int32), p_ev scr 141 2 [.ref 24] [.int s0, .ref 24] w = p_ev scr 141 5 [.ref 24] [] (p_u w.1 24 4 s0, w.2)) ∧
  (∀ (scr : pX) (w : pW), p_ev scr 141 5 [.ref 24] [] w = p_ev scr 141 6 [.ref 24] [.ref 24] w) ∧
  (∀ (scr : pX) (w : pW), p_ev scr 141 6 [.ref 24] [.ref 24] w = p_bnd scr 141 6 9 [.ref 24] [] (p_ev none 140 0 [.ref 24, p_U, p_U] [] w)) ∧
  (∀ (scr : pX) (w : pW) (s0 : Int32), narrow .boolean (.int s0) = .int s0 → p_ev scr 141 9 [.ref 24] [.int s0] w = some (.inl (some (.int s0)), w, 0)) :=
  ⟨fun _ _ => p_r (by decide +kernel : p_at 141 0 = some (.aload_n 0)) rfl,
  fun _ _ => p_r (by decide +kernel : p_at 141 1 = some (.iconst 0)) rfl,
  fun _ _ _ => p_rpf (by decide +kernel : p_at 141 2 = some (.putfield 63)) (by decide +kernel : p_fld (p_own 141) 63 = some (5, 4)) (rfl : p_ob 24 = some (.inr (5, [some 25, some 26, none, none, none, some 27, some 28, some 29, some 30, some 31, some 32, some 33, some 34, some 35, some 36, some 37, some 38, some 39, none, none, some 40]))) rfl,
  fun _ _ => p_r (by decide +kernel : p_at 141 5 = some (.aload_n 0)) rfl,
  fun _ _ => p_rcv (nl := 3) (by decide +kernel : p_at 141 6 = some (.invokevirtual 175)) (by decide +kernel : p_inv (p_own 141) 175 = some (1, 140, 1)) (by decide +kernel) (rfl : p_ob 24 = some (.inr (5, [some 25, some 26, none, none, none, some 27, some 28, some 29, some 30, some 31, some 32, some 33, some 34, some 35, some 36, some 37, some 38, some 39, none, none, some 40]))) rfl rfl (Nat.le_of_ble_eq_true rfl) (Nat.le_of_ble_eq_true rfl) (Nat.le_of_ble_eq_true rfl) rfl,
  fun _ _ _ hp => p_rzret (by decide +kernel : p_at 141 9 = some (.ireturn)) (by decide +kernel) hp⟩
-- 142: fill
theorem M142 :
  (∀ (scr : pX) (w : pW) (x1 : Int32) (x2 : Int32), p_ev scr 142 0 [.ref 24, .int x1, .int x2, p_U] [] w = p_ev scr 142 1 [.ref 24, .int x1, .int x2, p_U] [.int (nI 0)] w) ∧
  (∀ (scr : pX) (w : pW) (x1 : Int32) (x2 : Int32) (s0 : Int32), p_ev scr 142 1 [.ref 24, .int x1, .int x2, p_U] [.int s0] w = p_ev scr 142 2 [.ref 24, .int x1, .int x2, .int s0] [] w) ∧
  (∀ (scr : pX) (w : pW) (x1 : Int32) (x2 : Int32) (x3 : Int32) (s0 : Int32), p_ev scr 142 3 [.ref 24, .int x1, .int x2, .int x3] [.int s0] w = p_ev scr 142 4 [.ref 24, .int x1, .int x2, .int x3] [.ref 24, .int s0] w) ∧
  (∀ (scr : pX) (w : pW) (x1 : Int32) (x2 : Int32) (x3 : Int32) (s1 : Int32), p_ev scr 142 4 [.ref 24, .int x1, .int x2, .int x3] [.ref 24, .int s1] w = p_ev scr 142 5 [.ref 24, .int x1, .int x2, .int x3] [.int x2, .ref 24, .int s1] w) ∧
  (∀ (scr : pX) (w : pW) (x1 : Int32) (x2 : Int32) (x3 : Int32) (s0 : Int32) (s2 : Int32), p_ev scr 142 5 [.ref 24, .int x1, .int x2, .int x3] [.int s0, .ref 24, .int s2] w = p_bnd scr 142 5 8 [.ref 24, .int x1, .int x2, .int x3] [.int s2] (p_ev none 101 0 [.ref 24, .int s0, p_U, p_U] [] w)) ∧
  (∀ (scr : pX) (w : pW) (x1 : Int32) (x2 : Int32) (x3 : Int32) (s0 : Int32) (s1 : Int32), p_ev scr 142 8 [.ref 24, .int x1, .int x2, .int x3] [.int s0, .int s1] w = if s0 ≤ s1 then p_ev scr 142 36 [.ref 24, .int x1, .int x2, .int x3] [] w else p_ev scr 142 11 [.ref 24, .int x1, .int x2, .int x3] [] w) ∧
  (∀ (scr : pX) (w : pW) (x1 : Int32) (x2 : Int32) (x3 : Int32), p_ev scr 142 11 [.ref 24, .int x1, .int x2, .int x3] [] w = p_ev scr 142 12 [.ref 24, .int x1, .int x2, .int x3] [.ref 24] w) ∧
  (∀ (scr : pX) (w : pW) (x1 : Int32) (x2 : Int32) (x3 : Int32), p_ev scr 142 12 [.ref 24, .int x1, .int x2, .int x3] [.ref 24] w = p_ev scr 142 15 [.ref 24, .int x1, .int x2, .int x3] [.ref 32] w) ∧
  (∀ (scr : pX) (w : pW) (x1 : Int32) (x2 : Int32) (x3 : Int32), p_ev scr 142 15 [.ref 24, .int x1, .int x2, .int x3] [.ref 32] w = p_ev scr 142 16 [.ref 24, .int x1, .int x2, .int x3] [.int x1, .ref 32] w) ∧
  (∀ (scr : pX) (w : pW) (x1 : Int32) (x2 : Int32) (x3 : Int32) (s0 : Int32), p_ev scr 142 16 [.ref 24, .int x1, .int x2, .int x3] [.int s0, .ref 32] w = p_ev scr 142 17 [.ref 24, .int x1, .int x2, .int x3] [.int x3, .int s0, .ref 32] w) ∧
  (∀ (scr : pX) (w : pW) (x1 : Int32) (x2 : Int32) (x3 : Int32) (s0 : Int32) (s1 : Int32), p_ev scr 142 17 [.ref 24, .int x1, .int x2, .int x3] [.int s0, .int s1, .ref 32] w = p_ev scr 142 18 [.ref 24, .int x1, .int x2, .int x3] [.int (s1 + s0), .ref 32] w) ∧
  (∀ (scr : pX) (w : pW) (x1 : Int32) (x2 : Int32) (x3 : Int32) (s0 : Int32), p_ev scr 142 18 [.ref 24, .int x1, .int x2, .int x3] [.int s0, .ref 32] w = p_ev scr 142 19 [.ref 24, .int x1, .int x2, .int x3] [.ref 24, .int s0, .ref 32] w) ∧
  (∀ (scr : pX) (w : pW) (x1 : Int32) (x2 : Int32) (x3 : Int32) (s1 : Int32), p_ev scr 142 19 [.ref 24, .int x1, .int x2, .int x3] [.ref 24, .int s1, .ref 32] w = p_ev scr 142 22 [.ref 24, .int x1, .int x2, .int x3] [.ref 26, .int s1, .ref 32] w) ∧
  (∀ (scr : pX) (w : pW) (x1 : Int32) (x2 : Int32) (x3 : Int32) (s1 : Int32), p_ev scr 142 22 [.ref 24, .int x1, .int x2, .int x3] [.ref 26, .int s1, .ref 32] w = p_ev scr 142 24 [.ref 24, .int x1, .int x2, .int x3] [.int (nI 32), .ref 26, .int s1, .ref 32] w) ∧
  (∀ (scr : pX) (w : pW) (x1 : Int32) (x2 : Int32) (x3 : Int32) (s0 : Int32) (s2 : Int32), p_ev scr 142 24 [.ref 24, .int x1, .int x2, .int x3] [.int s0, .ref 26, .int s2, .ref 32] w = p_ev scr 142 25 [.ref 24, .int x1, .int x2, .int x3] [.int x2, .int s0, .ref 26, .int s2, .ref 32] w) ∧
  (∀ (scr : pX) (w : pW) (x1 : Int32) (x2 : Int32) (x3 : Int32) (s0 : Int32) (s1 : Int32) (s3 : Int32), p_ev scr 142 25 [.ref 24, .int x1, .int x2, .int x3] [.int s0, .int s1, .ref 26, .int s3, .ref 32] w = p_ev scr 142 26 [.ref 24, .int x1, .int x2, .int x3] [.int (s1 * s0), .ref 26, .int s3, .ref 32] w) ∧
  (∀ (scr : pX) (w : pW) (x1 : Int32) (x2 : Int32) (x3 : Int32) (s0 : Int32) (s2 : Int32), p_ev scr 142 26 [.ref 24, .int x1, .int x2, .int x3] [.int s0, .ref 26, .int s2, .ref 32] w = p_ev scr 142 27 [.ref 24, .int x1, .int x2, .int x3] [.int x3, .int s0, .ref 26, .int s2, .ref 32] w) ∧
  (∀ (scr : pX) (w : pW) (x1 : Int32) (x2 : Int32) (x3 : Int32) (s0 : Int32) (s1 : Int32) (s3 : Int32), p_ev scr 142 27 [.ref 24, .int x1, .int x2, .int x3] [.int s0, .int s1, .ref 26, .int s3, .ref 32] w = p_ev scr 142 28 [.ref 24, .int x1, .int x2, .int x3] [.int (s1 + s0), .ref 26, .int s3, .ref 32] w) ∧
  (∀ (scr : pX) (w : pW) (x1 : Int32) (x2 : Int32) (x3 : Int32) (s0 : Int32) (s2 : Int32), p_out s0 512 = false → p_ev scr 142 28 [.ref 24, .int x1, .int x2, .int x3] [.int s0, .ref 26, .int s2, .ref 32] w = p_ev scr 142 29 [.ref 24, .int x1, .int x2, .int x3] [.long (w.2.1 26 s0.toNatClampNeg), .int s2, .ref 32] w) ∧
  (∀ (scr : pX) (w : pW) (x1 : Int32) (x2 : Int32) (x3 : Int32) (t0 : Int64) (s1 : Int32), p_out s1 32 = false → p_ev scr 142 29 [.ref 24, .int x1, .int x2, .int x3] [.long t0, .int s1, .ref 32] w = p_ev scr 142 30 [.ref 24, .int x1, .int x2, .int x3] [] (w.1, p_u w.2.1 32 s1.toNatClampNeg t0, w.2.2)) ∧
  (∀ (scr : pX) (w : pW) (x1 : Int32) (x2 : Int32) (x3 : Int32), p_ev scr 142 30 [.ref 24, .int x1, .int x2, .int x3] [] w = p_ev scr 142 33 [.ref 24, .int x1, .int x2, .int (x3 + (nI 1))] [] w) ∧
  (∀ (scr : pX) (w : pW) (x1 : Int32) (x2 : Int32) (x3 : Int32), p_ev scr 142 33 [.ref 24, .int x1, .int x2, .int x3] [] w = p_ev scr 142 2 [.ref 24, .int x1, .int x2, .int x3] [] w) ∧
  (∀ (scr : pX) (w : pW) (x1 : Int32) (x2 : Int32) (x3 : Int32), p_ev scr 142 36 [.ref 24, .int x1, .int x2, .int x3] [] w = p_ev scr 142 37 [.ref 24, .int x1, .int x2, .int x3] [.int x1] w) ∧
  (∀ (scr : pX) (w : pW) (x1 : Int32) (x2 : Int32) (x3 : Int32) (s0 : Int32), p_ev scr 142 37 [.ref 24, .int x1, .int x2, .int x3] [.int s0] w = p_ev scr 142 38 [.ref 24, .int x1, .int x2, .int x3] [.ref 24, .int s0] w) ∧
  (∀ (scr : pX) (w : pW) (x1 : Int32) (x2 : Int32) (x3 : Int32) (s1 : Int32), p_ev scr 142 38 [.ref 24, .int x1, .int x2, .int x3] [.ref 24, .int s1] w = p_ev scr 142 39 [.ref 24, .int x1, .int x2, .int x3] [.int x2, .ref 24, .int s1] w) ∧
  (∀ (scr : pX) (w : pW) (x1 : Int32) (x2 : Int32) (x3 : Int32) (s0 : Int32) (s2 : Int32), p_ev scr 142 39 [.ref 24, .int x1, .int x2, .int x3] [.int s0, .ref 24, .int s2] w = p_bnd scr 142 39 42 [.ref 24, .int x1, .int x2, .int x3] [.int s2] (p_ev none 101 0 [.ref 24, .int s0, p_U, p_U] [] w)) ∧
  (∀ (scr : pX) (w : pW) (x1 : Int32) (x2 : Int32) (x3 : Int32) (s0 : Int32) (s1 : Int32), p_ev scr 142 42 [.ref 24, .int x1, .int x2, .int x3] [.int s0, .int s1] w = p_ev scr 142 43 [.ref 24, .int x1, .int x2, .int x3] [.int (s1 + s0)] w) ∧
  (∀ (scr : pX) (w : pW) (x1 : Int32) (x2 : Int32) (x3 : Int32) (s0 : Int32), p_ev scr 142 43 [.ref 24, .int x1, .int x2, .int x3] [.int s0] w = some (.inl (some (.int s0)), w, 0)) :=
  ⟨fun _ _ _ _ => p_r (by decide +kernel : p_at 142 0 = some (.iconst 0)) rfl,
  fun _ _ _ _ _ => p_r (by decide +kernel : p_at 142 1 = some (.istore_n 3)) rfl,
  fun _ _ _ _ _ _ => p_r (by decide +kernel : p_at 142 3 = some (.aload_n 0)) rfl,
  fun _ _ _ _ _ _ => p_r (by decide +kernel : p_at 142 4 = some (.iload_n 2)) rfl,
  fun _ _ _ _ _ _ _ => p_rcv (nl := 4) (by decide +kernel : p_at 142 5 = some (.invokevirtual 113)) (by decide +kernel : p_inv (p_own 142) 113 = some (1, 101, 2)) (by decide +kernel) (rfl : p_ob 24 = some (.inr (5, [some 25, some 26, none, none, none, some 27, some 28, some 29, some 30, some 31, some 32, some 33, some 34, some 35, some 36, some 37, some 38, some 39, none, none, some 40]))) rfl rfl (Nat.le_of_ble_eq_true rfl) (Nat.le_of_ble_eq_true rfl) (Nat.le_of_ble_eq_true rfl) rfl,
  fun _ _ _ _ _ _ _ => p_rb2 (c := fun x y => decide (y ≤ x)) (off := 28) (by decide +kernel : p_at 142 8 = some (.if_icmp .ge 28)) (by decide +kernel) rfl rfl rfl,
  fun _ _ _ _ _ => p_r (by decide +kernel : p_at 142 11 = some (.aload_n 0)) rfl,
  fun _ _ _ _ _ => p_rgf (f := some 32) (by decide +kernel : p_at 142 12 = some (.getfield 36)) (by decide +kernel : p_fld (p_own 142) 36 = some (5, 10)) (rfl : p_ob 24 = some (.inr (5, [some 25, some 26, none, none, none, some 27, some 28, some 29, some 30, some 31, some 32, some 33, some 34, some 35, some 36, some 37, some 38, some 39, none, none, some 40]))) rfl,
  fun _ _ _ _ _ => p_r (by decide +kernel : p_at 142 15 = some (.iload_n 1)) rfl,
  fun _ _ _ _ _ _ => p_r (by decide +kernel : p_at 142 16 = some (.iload_n 3)) rfl,
  fun _ _ _ _ _ _ _ => p_r (by decide +kernel : p_at 142 17 = some (.iadd)) rfl,
  fun _ _ _ _ _ _ => p_r (by decide +kernel : p_at 142 18 = some (.aload_n 0)) rfl,
  fun _ _ _ _ _ _ => p_rgf (f := some 26) (by decide +kernel : p_at 142 19 = some (.getfield 13)) (by decide +kernel : p_fld (p_own 142) 13 = some (5, 1)) (rfl : p_ob 24 = some (.inr (5, [some 25, some 26, none, none, none, some 27, some 28, some 29, some 30, some 31, some 32, some 33, some 34, some 35, some 36, some 37, some 38, some 39, none, none, some 40]))) rfl,
  fun _ _ _ _ _ _ => p_r (by decide +kernel : p_at 142 22 = some (.bipush 32)) rfl,
  fun _ _ _ _ _ _ _ => p_r (by decide +kernel : p_at 142 24 = some (.iload_n 2)) rfl,
  fun _ _ _ _ _ _ _ _ => p_r (by decide +kernel : p_at 142 25 = some (.imul)) rfl,
  fun _ _ _ _ _ _ _ => p_r (by decide +kernel : p_at 142 26 = some (.iload_n 3)) rfl,
  fun _ _ _ _ _ _ _ _ => p_r (by decide +kernel : p_at 142 27 = some (.iadd)) rfl,
  fun _ _ _ _ _ _ _ hp => p_rlald (by decide +kernel : p_at 142 28 = some (.laload)) (rfl : p_ob 26 = some (.inl (2, 512))) hp,
  fun _ _ _ _ _ _ _ hp => p_rlast (by decide +kernel : p_at 142 29 = some (.lastore)) (rfl : p_ob 32 = some (.inl (2, 32))) hp,
  fun _ _ _ _ _ => p_r (by decide +kernel : p_at 142 30 = some (.iinc 3 1)) rfl,
  fun _ _ _ _ _ => p_rgo (by decide +kernel : p_at 142 33 = some (.goto (-31))) (by decide +kernel),
  fun _ _ _ _ _ => p_r (by decide +kernel : p_at 142 36 = some (.iload_n 1)) rfl,
  fun _ _ _ _ _ _ => p_r (by decide +kernel : p_at 142 37 = some (.aload_n 0)) rfl,
  fun _ _ _ _ _ _ => p_r (by decide +kernel : p_at 142 38 = some (.iload_n 2)) rfl,
  fun _ _ _ _ _ _ _ => p_rcv (nl := 4) (by decide +kernel : p_at 142 39 = some (.invokevirtual 113)) (by decide +kernel : p_inv (p_own 142) 113 = some (1, 101, 2)) (by decide +kernel) (rfl : p_ob 24 = some (.inr (5, [some 25, some 26, none, none, none, some 27, some 28, some 29, some 30, some 31, some 32, some 33, some 34, some 35, some 36, some 37, some 38, some 39, none, none, some 40]))) rfl rfl (Nat.le_of_ble_eq_true rfl) (Nat.le_of_ble_eq_true rfl) (Nat.le_of_ble_eq_true rfl) rfl,
  fun _ _ _ _ _ _ _ => p_r (by decide +kernel : p_at 142 42 = some (.iadd)) rfl,
  fun _ _ _ _ _ _ => p_riret (by decide +kernel : p_at 142 43 = some (.ireturn)) (by decide +kernel)⟩
theorem H142_2 :
  (∀ (scr : pX) (w : pW) (x1 : Int32) (x2 : Int32) (x3 : Int32), p_ev scr 142 2 [.ref 24, .int x1, .int x2, .int x3] [] w = p_ev scr 142 3 [.ref 24, .int x1, .int x2, .int x3] [.int x3] w) :=
  fun _ _ _ _ _ => p_r (by decide +kernel : p_at 142 2 = some (.iload_n 3)) rfl
-- 143: layRow
theorem M143 :
  (∀ (scr : pX) (w : pW), p_ev scr 143 0 [.ref 24, p_U, p_U, p_U] [] w = p_ev scr 143 1 [.ref 24, p_U, p_U, p_U] [.int (nI 1)] w) ∧
  (∀ (scr : pX) (w : pW) (s0 : Int32), p_ev scr 143 1 [.ref 24, p_U, p_U, p_U] [.int s0] w = p_ev scr 143 2 [.ref 24, .int s0, p_U, p_U] [] w) ∧
  (∀ (scr : pX) (w : pW) (x1 : Int32), p_ev scr 143 3 [.ref 24, .int x1, p_U, p_U] [.ref 24] w = p_ev scr 143 6 [.ref 24, .int x1, p_U, p_U] [.ref 25] w) ∧
  (∀ (scr : pX) (w : pW) (x1 : Int32), p_ev scr 143 6 [.ref 24, .int x1, p_U, p_U] [.ref 25] w = p_ev scr 143 7 [.ref 24, .int x1, p_U, p_U] [.int x1, .ref 25] w) ∧
  (∀ (scr : pX) (w : pW) (x1 : Int32) (s0 : Int32), p_out s0 16 = false → p_ev scr 143 7 [.ref 24, .int x1, p_U, p_U] [.int s0, .ref 25] w = p_ev scr 143 8 [.ref 24, .int x1, p_U, p_U] [.int (w.2.2 25 s0.toNatClampNeg)] w) ∧
  (∀ (scr : pX) (w : pW) (x1 : Int32) (s0 : Int32), p_ev scr 143 8 [.ref 24, .int x1, p_U, p_U] [.int s0] w = p_ev scr 143 9 [.ref 24, .int x1, p_U, p_U] [.int (nI 2), .int s0] w) ∧
  (∀ (scr : pX) (w : pW) (x1 : Int32) (s0 : Int32) (s1 : Int32), p_ev scr 143 9 [.ref 24, .int x1, p_U, p_U] [.int s0, .int s1] w = if ¬ s1 = s0 then p_ev scr 143 19 [.ref 24, .int x1, p_U, p_U] [] w else p_ev scr 143 12 [.ref 24, .int x1, p_U, p_U] [] w) ∧
  (∀ (scr : pX) (w : pW) (x1 : Int32), p_ev scr 143 12 [.ref 24, .int x1, p_U, p_U] [] w = p_ev scr 143 13 [.ref 24, .int x1, p_U, p_U] [.int x1] w) ∧
  (∀ (scr : pX) (w : pW) (x1 : Int32) (s0 : Int32), p_ev scr 143 13 [.ref 24, .int x1, p_U, p_U] [.int s0] w = p_ev scr 143 14 [.ref 24, .int x1, p_U, p_U] [.int (nI 2), .int s0] w) ∧
  (∀ (scr : pX) (w : pW) (x1 : Int32) (s0 : Int32) (s1 : Int32), p_ev scr 143 14 [.ref 24, .int x1, p_U, p_U] [.int s0, .int s1] w = p_ev scr 143 15 [.ref 24, .int x1, p_U, p_U] [.int (s1 * s0)] w) ∧
  (∀ (scr : pX) (w : pW) (x1 : Int32) (s0 : Int32), p_ev scr 143 15 [.ref 24, .int x1, p_U, p_U] [.int s0] w = p_ev scr 143 16 [.ref 24, .int s0, p_U, p_U] [] w) ∧
  (∀ (scr : pX) (w : pW) (x1 : Int32), p_ev scr 143 16 [.ref 24, .int x1, p_U, p_U] [] w = p_ev scr 143 2 [.ref 24, .int x1, p_U, p_U] [] w) ∧
  (∀ (scr : pX) (w : pW) (x1 : Int32), p_ev scr 143 19 [.ref 24, .int x1, p_U, p_U] [] w = p_ev scr 143 20 [.ref 24, .int x1, p_U, p_U] [.ref 24] w) ∧
  (∀ (scr : pX) (w : pW) (x1 : Int32), p_ev scr 143 20 [.ref 24, .int x1, p_U, p_U] [.ref 24] w = p_ev scr 143 21 [.ref 24, .int x1, p_U, p_U] [.int x1, .ref 24] w) ∧
  (∀ (scr : pX) (w : pW) (x1 : Int32) (s0 : Int32), p_ev scr 143 21 [.ref 24, .int x1, p_U, p_U] [.int s0, .ref 24] w = p_ev scr 143 24 [.ref 24, .int x1, p_U, p_U] [] (p_u w.1 24 19 s0, w.2)) ∧
  (∀ (scr : pX) (w : pW) (x1 : Int32), p_ev scr 143 24 [.ref 24, .int x1, p_U, p_U] [] w = p_ev scr 143 25 [.ref 24, .int x1, p_U, p_U] [.ref 24] w) ∧
  (∀ (scr : pX) (w : pW) (x1 : Int32), p_ev scr 143 25 [.ref 24, .int x1, p_U, p_U] [.ref 24] w = p_ev scr 143 26 [.ref 24, .int x1, p_U, p_U] [.int (nI 0), .ref 24] w) ∧
  (∀ (scr : pX) (w : pW) (x1 : Int32) (s0 : Int32), p_ev scr 143 26 [.ref 24, .int x1, p_U, p_U] [.int s0, .ref 24] w = p_ev scr 143 27 [.ref 24, .int x1, p_U, p_U] [.int x1, .int s0, .ref 24] w) ∧
  (∀ (scr : pX) (w : pW) (x1 : Int32) (s0 : Int32) (s1 : Int32), p_ev scr 143 27 [.ref 24, .int x1, p_U, p_U] [.int s0, .int s1, .ref 24] w = p_bnd scr 143 27 30 [.ref 24, .int x1, p_U, p_U] [] (p_ev none 142 0 [.ref 24, .int s1, .int s0, p_U] [] w)) ∧
  (∀ (scr : pX) (w : pW) (x1 : Int32) (s0 : Int32), p_ev scr 143 30 [.ref 24, .int x1, p_U, p_U] [.int s0] w = p_ev scr 143 31 [.ref 24, .int x1, .int s0, p_U] [] w) ∧
  (∀ (scr : pX) (w : pW) (x1 : Int32) (x2 : Int32), p_ev scr 143 31 [.ref 24, .int x1, .int x2, p_U] [] w = p_ev scr 143 32 [.ref 24, .int x1, .int x2, p_U] [.int x1] w) ∧
  (∀ (scr : pX) (w : pW) (x1 : Int32) (x2 : Int32) (s0 : Int32), p_ev scr 143 32 [.ref 24, .int x1, .int x2, p_U] [.int s0] w = p_ev scr 143 33 [.ref 24, .int x1, .int x2, .int s0] [] w) ∧
  (∀ (scr : pX) (w : pW) (x1 : Int32) (x2 : Int32) (x3 : Int32) (s0 : Int32), p_ev scr 143 34 [.ref 24, .int x1, .int x2, .int x3] [.int s0] w = p_ev scr 143 35 [.ref 24, .int x1, .int x2, .int x3] [.int (nI 1), .int s0] w) ∧
  (∀ (scr : pX) (w : pW) (x1 : Int32) (x2 : Int32) (x3 : Int32) (s0 : Int32) (s1 : Int32), p_ev scr 143 35 [.ref 24, .int x1, .int x2, .int x3] [.int s0, .int s1] w = if s1 ≤ s0 then p_ev scr 143 54 [.ref 24, .int x1, .int x2, .int x3] [] w else p_ev scr 143 38 [.ref 24, .int x1, .int x2, .int x3] [] w) ∧
  (∀ (scr : pX) (w : pW) (x1 : Int32) (x2 : Int32) (x3 : Int32), p_ev scr 143 38 [.ref 24, .int x1, .int x2, .int x3] [] w = p_ev scr 143 39 [.ref 24, .int x1, .int x2, .int x3] [.ref 24] w) ∧
  (∀ (scr : pX) (w : pW) (x1 : Int32) (x2 : Int32) (x3 : Int32), p_ev scr 143 39 [.ref 24, .int x1, .int x2, .int x3] [.ref 24] w = p_ev scr 143 40 [.ref 24, .int x1, .int x2, .int x3] [.int x2, .ref 24] w) ∧
  (∀ (scr : pX) (w : pW) (x1 : Int32) (x2 : Int32) (x3 : Int32) (s0 : Int32), p_ev scr 143 40 [.ref 24, .int x1, .int x2, .int x3] [.int s0, .ref 24] w = p_ev scr 143 41 [.ref 24, .int x1, .int x2, .int x3] [.int x3, .int s0, .ref 24] w) ∧
  (∀ (scr : pX) (w : pW) (x1 : Int32) (x2 : Int32) (x3 : Int32) (s0 : Int32) (s1 : Int32), p_ev scr 143 41 [.ref 24, .int x1, .int x2, .int x3] [.int s0, .int s1, .ref 24] w = p_ev scr 143 42 [.ref 24, .int x1, .int x2, .int x3] [.int (nI 1), .int s0, .int s1, .ref 24] w) ∧
  (∀ (scr : pX) (w : pW) (x1 : Int32) (x2 : Int32) (x3 : Int32) (s0 : Int32) (s1 : Int32) (s2 : Int32), p_ev scr 143 42 [.ref 24, .int x1, .int x2, .int x3] [.int s0, .int s1, .int s2, .ref 24] w = p_ev scr 143 43 [.ref 24, .int x1, .int x2, .int x3] [.int (s1 + s0), .int s2, .ref 24] w) ∧
  (∀ (scr : pX) (w : pW) (x1 : Int32) (x2 : Int32) (x3 : Int32) (s0 : Int32) (s1 : Int32), p_ev scr 143 43 [.ref 24, .int x1, .int x2, .int x3] [.int s0, .int s1, .ref 24] w = p_bnd scr 143 43 46 [.ref 24, .int x1, .int x2, .int x3] [] (p_ev none 142 0 [.ref 24, .int s1, .int s0, p_U] [] w)) ∧
  (∀ (scr : pX) (w : pW) (x1 : Int32) (x2 : Int32) (x3 : Int32) (s0 : Int32), p_ev scr 143 46 [.ref 24, .int x1, .int x2, .int x3] [.int s0] w = p_ev scr 143 47 [.ref 24, .int x1, .int s0, .int x3] [] w) ∧
  (∀ (scr : pX) (w : pW) (x1 : Int32) (x2 : Int32) (x3 : Int32), p_ev scr 143 47 [.ref 24, .int x1, .int x2, .int x3] [] w = p_ev scr 143 48 [.ref 24, .int x1, .int x2, .int x3] [.int x3] w) ∧
  (∀ (scr : pX) (w : pW) (x1 : Int32) (x2 : Int32) (x3 : Int32) (s0 : Int32), p_ev scr 143 48 [.ref 24, .int x1, .int x2, .int x3] [.int s0] w = p_ev scr 143 49 [.ref 24, .int x1, .int x2, .int x3] [.int (nI 2), .int s0] w) ∧
  (∀ (scr : pX) (w : pW) (x1 : Int32) (x2 : Int32) (x3 : Int32) (s0 : Int32) (s1 : Int32), ¬ s0 = 0 → p_ev scr 143 49 [.ref 24, .int x1, .int x2, .int x3] [.int s0, .int s1] w = p_ev scr 143 50 [.ref 24, .int x1, .int x2, .int x3] [.int (s1 / s0)] w) ∧
  (∀ (scr : pX) (w : pW) (x1 : Int32) (x2 : Int32) (x3 : Int32) (s0 : Int32), p_ev scr 143 50 [.ref 24, .int x1, .int x2, .int x3] [.int s0] w = p_ev scr 143 51 [.ref 24, .int x1, .int x2, .int s0] [] w) ∧
  (∀ (scr : pX) (w : pW) (x1 : Int32) (x2 : Int32) (x3 : Int32), p_ev scr 143 51 [.ref 24, .int x1, .int x2, .int x3] [] w = p_ev scr 143 33 [.ref 24, .int x1, .int x2, .int x3] [] w) ∧
  (∀ (scr : pX) (w : pW) (x1 : Int32) (x2 : Int32) (x3 : Int32), p_ev scr 143 54 [.ref 24, .int x1, .int x2, .int x3] [] w = some (.inl none, w, 0)) :=
  ⟨fun _ _ => p_r (by decide +kernel : p_at 143 0 = some (.iconst 1)) rfl,
  fun _ _ _ => p_r (by decide +kernel : p_at 143 1 = some (.istore_n 1)) rfl,
  fun _ _ _ => p_rgf (f := some 25) (by decide +kernel : p_at 143 3 = some (.getfield 7)) (by decide +kernel : p_fld (p_own 143) 7 = some (5, 0)) (rfl : p_ob 24 = some (.inr (5, [some 25, some 26, none, none, none, some 27, some 28, some 29, some 30, some 31, some 32, some 33, some 34, some 35, some 36, some 37, some 38, some 39, none, none, some 40]))) rfl,
  fun _ _ _ => p_r (by decide +kernel : p_at 143 6 = some (.iload_n 1)) rfl,
  fun _ _ _ _ hp => p_riald (by decide +kernel : p_at 143 7 = some (.iaload)) (rfl : p_ob 25 = some (.inl (1, 16))) hp,
  fun _ _ _ _ => p_r (by decide +kernel : p_at 143 8 = some (.iconst 2)) rfl,
  fun _ _ _ _ _ => p_rb2 (c := fun x y => decide (¬ x = y)) (off := 10) (by decide +kernel : p_at 143 9 = some (.if_icmp .ne 10)) (by decide +kernel) rfl rfl rfl,
  fun _ _ _ => p_r (by decide +kernel : p_at 143 12 = some (.iload_n 1)) rfl,
  fun _ _ _ _ => p_r (by decide +kernel : p_at 143 13 = some (.iconst 2)) rfl,
  fun _ _ _ _ _ => p_r (by decide +kernel : p_at 143 14 = some (.imul)) rfl,
  fun _ _ _ _ => p_r (by decide +kernel : p_at 143 15 = some (.istore_n 1)) rfl,
  fun _ _ _ => p_rgo (by decide +kernel : p_at 143 16 = some (.goto (-14))) (by decide +kernel),
  fun _ _ _ => p_r (by decide +kernel : p_at 143 19 = some (.aload_n 0)) rfl,
  fun _ _ _ => p_r (by decide +kernel : p_at 143 20 = some (.iload_n 1)) rfl,
  fun _ _ _ _ => p_rpf (by decide +kernel : p_at 143 21 = some (.putfield 179)) (by decide +kernel : p_fld (p_own 143) 179 = some (5, 19)) (rfl : p_ob 24 = some (.inr (5, [some 25, some 26, none, none, none, some 27, some 28, some 29, some 30, some 31, some 32, some 33, some 34, some 35, some 36, some 37, some 38, some 39, none, none, some 40]))) rfl,
  fun _ _ _ => p_r (by decide +kernel : p_at 143 24 = some (.aload_n 0)) rfl,
  fun _ _ _ => p_r (by decide +kernel : p_at 143 25 = some (.iconst 0)) rfl,
  fun _ _ _ _ => p_r (by decide +kernel : p_at 143 26 = some (.iload_n 1)) rfl,
  fun _ _ _ _ _ => p_rcv (nl := 4) (by decide +kernel : p_at 143 27 = some (.invokevirtual 182)) (by decide +kernel : p_inv (p_own 143) 182 = some (1, 142, 3)) (by decide +kernel) (rfl : p_ob 24 = some (.inr (5, [some 25, some 26, none, none, none, some 27, some 28, some 29, some 30, some 31, some 32, some 33, some 34, some 35, some 36, some 37, some 38, some 39, none, none, some 40]))) rfl rfl (Nat.le_of_ble_eq_true rfl) (Nat.le_of_ble_eq_true rfl) (Nat.le_of_ble_eq_true rfl) rfl,
  fun _ _ _ _ => p_r (by decide +kernel : p_at 143 30 = some (.istore_n 2)) rfl,
  fun _ _ _ _ => p_r (by decide +kernel : p_at 143 31 = some (.iload_n 1)) rfl,
  fun _ _ _ _ _ => p_r (by decide +kernel : p_at 143 32 = some (.istore_n 3)) rfl,
  fun _ _ _ _ _ _ => p_r (by decide +kernel : p_at 143 34 = some (.iconst 1)) rfl,
  fun _ _ _ _ _ _ _ => p_rb2 (c := fun x y => decide (x ≤ y)) (off := 19) (by decide +kernel : p_at 143 35 = some (.if_icmp .le 19)) (by decide +kernel) rfl rfl rfl,
  fun _ _ _ _ _ => p_r (by decide +kernel : p_at 143 38 = some (.aload_n 0)) rfl,
  fun _ _ _ _ _ => p_r (by decide +kernel : p_at 143 39 = some (.iload_n 2)) rfl,
  fun _ _ _ _ _ _ => p_r (by decide +kernel : p_at 143 40 = some (.iload_n 3)) rfl,
  fun _ _ _ _ _ _ _ => p_r (by decide +kernel : p_at 143 41 = some (.iconst 1)) rfl,
  fun _ _ _ _ _ _ _ _ => p_r (by decide +kernel : p_at 143 42 = some (.iadd)) rfl,
  fun _ _ _ _ _ _ _ => p_rcv (nl := 4) (by decide +kernel : p_at 143 43 = some (.invokevirtual 182)) (by decide +kernel : p_inv (p_own 143) 182 = some (1, 142, 3)) (by decide +kernel) (rfl : p_ob 24 = some (.inr (5, [some 25, some 26, none, none, none, some 27, some 28, some 29, some 30, some 31, some 32, some 33, some 34, some 35, some 36, some 37, some 38, some 39, none, none, some 40]))) rfl rfl (Nat.le_of_ble_eq_true rfl) (Nat.le_of_ble_eq_true rfl) (Nat.le_of_ble_eq_true rfl) rfl,
  fun _ _ _ _ _ _ => p_r (by decide +kernel : p_at 143 46 = some (.istore_n 2)) rfl,
  fun _ _ _ _ _ => p_r (by decide +kernel : p_at 143 47 = some (.iload_n 3)) rfl,
  fun _ _ _ _ _ _ => p_r (by decide +kernel : p_at 143 48 = some (.iconst 2)) rfl,
  fun _ _ _ _ _ _ _ hp => p_ridiv (by decide +kernel : p_at 143 49 = some (.idiv)) hp,
  fun _ _ _ _ _ _ => p_r (by decide +kernel : p_at 143 50 = some (.istore_n 3)) rfl,
  fun _ _ _ _ _ => p_rgo (by decide +kernel : p_at 143 51 = some (.goto (-18))) (by decide +kernel),
  fun _ _ _ _ _ => p_rvret (by decide +kernel : p_at 143 54 = some (.return_)) (by decide +kernel)⟩
theorem H143_2 :
  (∀ (scr : pX) (w : pW) (x1 : Int32), p_ev scr 143 2 [.ref 24, .int x1, p_U, p_U] [] w = p_ev scr 143 3 [.ref 24, .int x1, p_U, p_U] [.ref 24] w) :=
  fun _ _ _ => p_r (by decide +kernel : p_at 143 2 = some (.aload_n 0)) rfl
theorem H143_33 :
  (∀ (scr : pX) (w : pW) (x1 : Int32) (x2 : Int32) (x3 : Int32), p_ev scr 143 33 [.ref 24, .int x1, .int x2, .int x3] [] w = p_ev scr 143 34 [.ref 24, .int x1, .int x2, .int x3] [.int x3] w) :=
  fun _ _ _ _ _ => p_r (by decide +kernel : p_at 143 33 = some (.iload_n 3)) rfl
-- 144: write
theorem M144 :
  (∀ (scr : pX) (w : pW) (x1 : Int32) (x2 : Int32) (x3 : Int32), p_ev scr 144 0 [.ref 24, .int x1, .int x2, .int x3] [] w = p_ev scr 144 1 [.ref 24, .int x1, .int x2, .int x3] [.ref 24] w) ∧
  (∀ (scr : pX) (w : pW) (x1 : Int32) (x2 : Int32) (x3 : Int32), p_ev scr 144 1 [.ref 24, .int x1, .int x2, .int x3] [.ref 24] w = p_ev scr 144 4 [.ref 24, .int x1, .int x2, .int x3] [.ref 34] w) ∧
  (∀ (scr : pX) (w : pW) (x1 : Int32) (x2 : Int32) (x3 : Int32), p_ev scr 144 4 [.ref 24, .int x1, .int x2, .int x3] [.ref 34] w = p_ev scr 144 5 [.ref 24, .int x1, .int x2, .int x3] [.ref 24, .ref 34] w) ∧
  (∀ (scr : pX) (w : pW) (x1 : Int32) (x2 : Int32) (x3 : Int32), p_ev scr 144 5 [.ref 24, .int x1, .int x2, .int x3] [.ref 24, .ref 34] w = p_ev scr 144 8 [.ref 24, .int x1, .int x2, .int x3] [.int (w.1 24 18), .ref 34] w) ∧
  (∀ (scr : pX) (w : pW) (x1 : Int32) (x2 : Int32) (x3 : Int32) (s0 : Int32), p_ev scr 144 8 [.ref 24, .int x1, .int x2, .int x3] [.int s0, .ref 34] w = p_ev scr 144 9 [.ref 24, .int x1, .int x2, .int x3] [.int x1, .int s0, .ref 34] w) ∧
  (∀ (scr : pX) (w : pW) (x1 : Int32) (x2 : Int32) (x3 : Int32) (s0 : Int32) (s1 : Int32), p_out s1 4100 = false → p_ev scr 144 9 [.ref 24, .int x1, .int x2, .int x3] [.int s0, .int s1, .ref 34] w = p_ev scr 144 10 [.ref 24, .int x1, .int x2, .int x3] [] (w.1, w.2.1, p_u w.2.2 34 s1.toNatClampNeg s0)) ∧
  (∀ (scr : pX) (w : pW) (x1 : Int32) (x2 : Int32) (x3 : Int32), p_ev scr 144 10 [.ref 24, .int x1, .int x2, .int x3] [] w = p_ev scr 144 11 [.ref 24, .int x1, .int x2, .int x3] [.ref 24] w) ∧
  (∀ (scr : pX) (w : pW) (x1 : Int32) (x2 : Int32) (x3 : Int32), p_ev scr 144 11 [.ref 24, .int x1, .int x2, .int x3] [.ref 24] w = p_ev scr 144 14 [.ref 24, .int x1, .int x2, .int x3] [.ref 35] w) ∧
  (∀ (scr : pX) (w : pW) (x1 : Int32) (x2 : Int32) (x3 : Int32), p_ev scr 144 14 [.ref 24, .int x1, .int x2, .int x3] [.ref 35] w = p_ev scr 144 15 [.ref 24, .int x1, .int x2, .int x3] [.ref 24, .ref 35] w) ∧
  (∀ (scr : pX) (w : pW) (x1 : Int32) (x2 : Int32) (x3 : Int32), p_ev scr 144 15 [.ref 24, .int x1, .int x2, .int x3] [.ref 24, .ref 35] w = p_ev scr 144 18 [.ref 24, .int x1, .int x2, .int x3] [.int (w.1 24 18), .ref 35] w) ∧
  (∀ (scr : pX) (w : pW) (x1 : Int32) (x2 : Int32) (x3 : Int32) (s0 : Int32), p_ev scr 144 18 [.ref 24, .int x1, .int x2, .int x3] [.int s0, .ref 35] w = p_ev scr 144 19 [.ref 24, .int x1, .int x2, .int x3] [.int x2, .int s0, .ref 35] w) ∧
  (∀ (scr : pX) (w : pW) (x1 : Int32) (x2 : Int32) (x3 : Int32) (s0 : Int32) (s1 : Int32), p_out s1 4100 = false → p_ev scr 144 19 [.ref 24, .int x1, .int x2, .int x3] [.int s0, .int s1, .ref 35] w = p_ev scr 144 20 [.ref 24, .int x1, .int x2, .int x3] [] (w.1, w.2.1, p_u w.2.2 35 s1.toNatClampNeg s0)) ∧
  (∀ (scr : pX) (w : pW) (x1 : Int32) (x2 : Int32) (x3 : Int32), p_ev scr 144 20 [.ref 24, .int x1, .int x2, .int x3] [] w = p_ev scr 144 21 [.ref 24, .int x1, .int x2, .int x3] [.ref 24] w) ∧
  (∀ (scr : pX) (w : pW) (x1 : Int32) (x2 : Int32) (x3 : Int32), p_ev scr 144 21 [.ref 24, .int x1, .int x2, .int x3] [.ref 24] w = p_ev scr 144 24 [.ref 24, .int x1, .int x2, .int x3] [.ref 36] w) ∧
  (∀ (scr : pX) (w : pW) (x1 : Int32) (x2 : Int32) (x3 : Int32), p_ev scr 144 24 [.ref 24, .int x1, .int x2, .int x3] [.ref 36] w = p_ev scr 144 25 [.ref 24, .int x1, .int x2, .int x3] [.ref 24, .ref 36] w) ∧
  (∀ (scr : pX) (w : pW) (x1 : Int32) (x2 : Int32) (x3 : Int32), p_ev scr 144 25 [.ref 24, .int x1, .int x2, .int x3] [.ref 24, .ref 36] w = p_ev scr 144 28 [.ref 24, .int x1, .int x2, .int x3] [.int (w.1 24 18), .ref 36] w) ∧
  (∀ (scr : pX) (w : pW) (x1 : Int32) (x2 : Int32) (x3 : Int32) (s0 : Int32), p_ev scr 144 28 [.ref 24, .int x1, .int x2, .int x3] [.int s0, .ref 36] w = p_ev scr 144 29 [.ref 24, .int x1, .int x2, .int x3] [.int x3, .int s0, .ref 36] w) ∧
  (∀ (scr : pX) (w : pW) (x1 : Int32) (x2 : Int32) (x3 : Int32) (s0 : Int32) (s1 : Int32), p_out s1 4100 = false → p_ev scr 144 29 [.ref 24, .int x1, .int x2, .int x3] [.int s0, .int s1, .ref 36] w = p_ev scr 144 30 [.ref 24, .int x1, .int x2, .int x3] [] (w.1, w.2.1, p_u w.2.2 36 s1.toNatClampNeg s0)) ∧
  (∀ (scr : pX) (w : pW) (x1 : Int32) (x2 : Int32) (x3 : Int32), p_ev scr 144 30 [.ref 24, .int x1, .int x2, .int x3] [] w = p_ev scr 144 31 [.ref 24, .int x1, .int x2, .int x3] [.ref 24] w) ∧
  (∀ (scr : pX) (w : pW) (x1 : Int32) (x2 : Int32) (x3 : Int32), p_ev scr 144 31 [.ref 24, .int x1, .int x2, .int x3] [.ref 24] w = p_ev scr 144 32 [.ref 24, .int x1, .int x2, .int x3] [.ref 24, .ref 24] w) ∧
  (∀ (scr : pX) (w : pW) (x1 : Int32) (x2 : Int32) (x3 : Int32), p_ev scr 144 32 [.ref 24, .int x1, .int x2, .int x3] [.ref 24, .ref 24] w = p_ev scr 144 35 [.ref 24, .int x1, .int x2, .int x3] [.int (w.1 24 18), .ref 24] w) ∧
  (∀ (scr : pX) (w : pW) (x1 : Int32) (x2 : Int32) (x3 : Int32) (s0 : Int32), p_ev scr 144 35 [.ref 24, .int x1, .int x2, .int x3] [.int s0, .ref 24] w = p_ev scr 144 36 [.ref 24, .int x1, .int x2, .int x3] [.int (nI 1), .int s0, .ref 24] w) ∧
  (∀ (scr : pX) (w : pW) (x1 : Int32) (x2 : Int32) (x3 : Int32) (s0 : Int32) (s1 : Int32), p_ev scr 144 36 [.ref 24, .int x1, .int x2, .int x3] [.int s0, .int s1, .ref 24] w = p_ev scr 144 37 [.ref 24, .int x1, .int x2, .int x3] [.int (s1 + s0), .ref 24] w) ∧
  (∀ (scr : pX) (w : pW) (x1 : Int32) (x2 : Int32) (x3 : Int32) (s0 : Int32), p_ev scr 144 37 [.ref 24, .int x1, .int x2, .int x3] [.int s0, .ref 24] w = p_ev scr 144 40 [.ref 24, .int x1, .int x2, .int x3] [] (p_u w.1 24 18 s0, w.2)) ∧
  (∀ (scr : pX) (w : pW) (x1 : Int32) (x2 : Int32) (x3 : Int32), p_ev scr 144 40 [.ref 24, .int x1, .int x2, .int x3] [] w = some (.inl none, w, 0)) :=
  ⟨fun _ _ _ _ _ => p_r (by decide +kernel : p_at 144 0 = some (.aload_n 0)) rfl,
  fun _ _ _ _ _ => p_rgf (f := some 34) (by decide +kernel : p_at 144 1 = some (.getfield 42)) (by decide +kernel : p_fld (p_own 144) 42 = some (5, 12)) (rfl : p_ob 24 = some (.inr (5, [some 25, some 26, none, none, none, some 27, some 28, some 29, some 30, some 31, some 32, some 33, some 34, some 35, some 36, some 37, some 38, some 39, none, none, some 40]))) rfl,
  fun _ _ _ _ _ => p_r (by decide +kernel : p_at 144 4 = some (.aload_n 0)) rfl,
  fun _ _ _ _ _ => p_rgf (f := none) (by decide +kernel : p_at 144 5 = some (.getfield 186)) (by decide +kernel : p_fld (p_own 144) 186 = some (5, 18)) (rfl : p_ob 24 = some (.inr (5, [some 25, some 26, none, none, none, some 27, some 28, some 29, some 30, some 31, some 32, some 33, some 34, some 35, some 36, some 37, some 38, some 39, none, none, some 40]))) rfl,
  fun _ _ _ _ _ _ => p_r (by decide +kernel : p_at 144 8 = some (.iload_n 1)) rfl,
  fun _ _ _ _ _ _ _ hp => p_riast (by decide +kernel : p_at 144 9 = some (.iastore)) (rfl : p_ob 34 = some (.inl (1, 4100))) hp,
  fun _ _ _ _ _ => p_r (by decide +kernel : p_at 144 10 = some (.aload_n 0)) rfl,
  fun _ _ _ _ _ => p_rgf (f := some 35) (by decide +kernel : p_at 144 11 = some (.getfield 45)) (by decide +kernel : p_fld (p_own 144) 45 = some (5, 13)) (rfl : p_ob 24 = some (.inr (5, [some 25, some 26, none, none, none, some 27, some 28, some 29, some 30, some 31, some 32, some 33, some 34, some 35, some 36, some 37, some 38, some 39, none, none, some 40]))) rfl,
  fun _ _ _ _ _ => p_r (by decide +kernel : p_at 144 14 = some (.aload_n 0)) rfl,
  fun _ _ _ _ _ => p_rgf (f := none) (by decide +kernel : p_at 144 15 = some (.getfield 186)) (by decide +kernel : p_fld (p_own 144) 186 = some (5, 18)) (rfl : p_ob 24 = some (.inr (5, [some 25, some 26, none, none, none, some 27, some 28, some 29, some 30, some 31, some 32, some 33, some 34, some 35, some 36, some 37, some 38, some 39, none, none, some 40]))) rfl,
  fun _ _ _ _ _ _ => p_r (by decide +kernel : p_at 144 18 = some (.iload_n 2)) rfl,
  fun _ _ _ _ _ _ _ hp => p_riast (by decide +kernel : p_at 144 19 = some (.iastore)) (rfl : p_ob 35 = some (.inl (1, 4100))) hp,
  fun _ _ _ _ _ => p_r (by decide +kernel : p_at 144 20 = some (.aload_n 0)) rfl,
  fun _ _ _ _ _ => p_rgf (f := some 36) (by decide +kernel : p_at 144 21 = some (.getfield 48)) (by decide +kernel : p_fld (p_own 144) 48 = some (5, 14)) (rfl : p_ob 24 = some (.inr (5, [some 25, some 26, none, none, none, some 27, some 28, some 29, some 30, some 31, some 32, some 33, some 34, some 35, some 36, some 37, some 38, some 39, none, none, some 40]))) rfl,
  fun _ _ _ _ _ => p_r (by decide +kernel : p_at 144 24 = some (.aload_n 0)) rfl,
  fun _ _ _ _ _ => p_rgf (f := none) (by decide +kernel : p_at 144 25 = some (.getfield 186)) (by decide +kernel : p_fld (p_own 144) 186 = some (5, 18)) (rfl : p_ob 24 = some (.inr (5, [some 25, some 26, none, none, none, some 27, some 28, some 29, some 30, some 31, some 32, some 33, some 34, some 35, some 36, some 37, some 38, some 39, none, none, some 40]))) rfl,
  fun _ _ _ _ _ _ => p_r (by decide +kernel : p_at 144 28 = some (.iload_n 3)) rfl,
  fun _ _ _ _ _ _ _ hp => p_riast (by decide +kernel : p_at 144 29 = some (.iastore)) (rfl : p_ob 36 = some (.inl (1, 4100))) hp,
  fun _ _ _ _ _ => p_r (by decide +kernel : p_at 144 30 = some (.aload_n 0)) rfl,
  fun _ _ _ _ _ => p_r (by decide +kernel : p_at 144 31 = some (.dup)) rfl,
  fun _ _ _ _ _ => p_rgf (f := none) (by decide +kernel : p_at 144 32 = some (.getfield 186)) (by decide +kernel : p_fld (p_own 144) 186 = some (5, 18)) (rfl : p_ob 24 = some (.inr (5, [some 25, some 26, none, none, none, some 27, some 28, some 29, some 30, some 31, some 32, some 33, some 34, some 35, some 36, some 37, some 38, some 39, none, none, some 40]))) rfl,
  fun _ _ _ _ _ _ => p_r (by decide +kernel : p_at 144 35 = some (.iconst 1)) rfl,
  fun _ _ _ _ _ _ _ => p_r (by decide +kernel : p_at 144 36 = some (.iadd)) rfl,
  fun _ _ _ _ _ _ => p_rpf (by decide +kernel : p_at 144 37 = some (.putfield 186)) (by decide +kernel : p_fld (p_own 144) 186 = some (5, 18)) (rfl : p_ob 24 = some (.inr (5, [some 25, some 26, none, none, none, some 27, some 28, some 29, some 30, some 31, some 32, some 33, some 34, some 35, some 36, some 37, some 38, some 39, none, none, some 40]))) rfl,
  fun _ _ _ _ _ => p_rvret (by decide +kernel : p_at 144 40 = some (.return_)) (by decide +kernel)⟩
-- 145: firstChild
theorem M145 :
  (∀ (scr : pX) (w : pW) (x1 : Int32) (x2 : Int32), p_ev scr 145 0 [.ref 24, .int x1, .int x2, p_U] [] w = p_ev scr 145 1 [.ref 24, .int x1, .int x2, p_U] [.int x1] w) ∧
  (∀ (scr : pX) (w : pW) (x1 : Int32) (x2 : Int32) (s0 : Int32), p_ev scr 145 1 [.ref 24, .int x1, .int x2, p_U] [.int s0] w = p_ev scr 145 2 [.ref 24, .int x1, .int x2, p_U] [.int x2, .int s0] w) ∧
  (∀ (scr : pX) (w : pW) (x1 : Int32) (x2 : Int32) (s0 : Int32) (s1 : Int32), p_ev scr 145 2 [.ref 24, .int x1, .int x2, p_U] [.int s0, .int s1] w = if s0 ≤ s1 then p_ev scr 145 11 [.ref 24, .int x1, .int x2, p_U] [] w else p_ev scr 145 5 [.ref 24, .int x1, .int x2, p_U] [] w) ∧
  (∀ (scr : pX) (w : pW) (x1 : Int32) (x2 : Int32), p_ev scr 145 5 [.ref 24, .int x1, .int x2, p_U] [] w = p_ev scr 145 6 [.ref 24, .int x1, .int x2, p_U] [.int x1] w) ∧
  (∀ (scr : pX) (w : pW) (x1 : Int32) (x2 : Int32) (s0 : Int32), p_ev scr 145 6 [.ref 24, .int x1, .int x2, p_U] [.int s0] w = p_ev scr 145 7 [.ref 24, .int x1, .int x2, p_U] [.int x2, .int s0] w) ∧
  (∀ (scr : pX) (w : pW) (x1 : Int32) (x2 : Int32) (s0 : Int32) (s1 : Int32), p_ev scr 145 7 [.ref 24, .int x1, .int x2, p_U] [.int s0, .int s1] w = p_ev scr 145 8 [.ref 24, .int x1, .int x2, p_U] [.int (s1 + s0)] w) ∧
  (∀ (scr : pX) (w : pW) (x1 : Int32) (x2 : Int32) (s0 : Int32), p_ev scr 145 8 [.ref 24, .int x1, .int x2, p_U] [.int s0] w = p_ev scr 145 14 [.ref 24, .int x1, .int x2, p_U] [.int s0] w) ∧
  (∀ (scr : pX) (w : pW) (x1 : Int32) (x2 : Int32), p_ev scr 145 11 [.ref 24, .int x1, .int x2, p_U] [] w = p_ev scr 145 12 [.ref 24, .int x1, .int x2, p_U] [.int (nI 2)] w) ∧
  (∀ (scr : pX) (w : pW) (x1 : Int32) (x2 : Int32) (s0 : Int32), p_ev scr 145 12 [.ref 24, .int x1, .int x2, p_U] [.int s0] w = p_ev scr 145 13 [.ref 24, .int x1, .int x2, p_U] [.int x1, .int s0] w) ∧
  (∀ (scr : pX) (w : pW) (x1 : Int32) (x2 : Int32) (s0 : Int32) (s1 : Int32), p_ev scr 145 13 [.ref 24, .int x1, .int x2, p_U] [.int s0, .int s1] w = p_ev scr 145 14 [.ref 24, .int x1, .int x2, p_U] [.int (s1 * s0)] w) ∧
  (∀ (scr : pX) (w : pW) (x1 : Int32) (x2 : Int32) (s0 : Int32), p_ev scr 145 14 [.ref 24, .int x1, .int x2, p_U] [.int s0] w = p_ev scr 145 15 [.ref 24, .int x1, .int x2, .int s0] [] w) ∧
  (∀ (scr : pX) (w : pW) (x1 : Int32) (x2 : Int32) (x3 : Int32), p_ev scr 145 15 [.ref 24, .int x1, .int x2, .int x3] [] w = p_ev scr 145 16 [.ref 24, .int x1, .int x2, .int x3] [.int x3] w) ∧
  (∀ (scr : pX) (w : pW) (x1 : Int32) (x2 : Int32) (x3 : Int32) (s0 : Int32), p_ev scr 145 16 [.ref 24, .int x1, .int x2, .int x3] [.int s0] w = p_ev scr 145 17 [.ref 24, .int x1, .int x2, .int x3] [.ref 24, .int s0] w) ∧
  (∀ (scr : pX) (w : pW) (x1 : Int32) (x2 : Int32) (x3 : Int32) (s1 : Int32), p_ev scr 145 17 [.ref 24, .int x1, .int x2, .int x3] [.ref 24, .int s1] w = p_ev scr 145 20 [.ref 24, .int x1, .int x2, .int x3] [.int (w.1 24 2), .int s1] w) ∧
  (∀ (scr : pX) (w : pW) (x1 : Int32) (x2 : Int32) (x3 : Int32) (s0 : Int32) (s1 : Int32), p_ev scr 145 20 [.ref 24, .int x1, .int x2, .int x3] [.int s0, .int s1] w = if s0 ≤ s1 then p_ev scr 145 27 [.ref 24, .int x1, .int x2, .int x3] [] w else p_ev scr 145 23 [.ref 24, .int x1, .int x2, .int x3] [] w) ∧
  (∀ (scr : pX) (w : pW) (x1 : Int32) (x2 : Int32) (x3 : Int32), p_ev scr 145 23 [.ref 24, .int x1, .int x2, .int x3] [] w = p_ev scr 145 24 [.ref 24, .int x1, .int x2, .int x3] [.int x3] w) ∧
  (∀ (scr : pX) (w : pW) (x1 : Int32) (x2 : Int32) (x3 : Int32) (s0 : Int32), p_ev scr 145 24 [.ref 24, .int x1, .int x2, .int x3] [.int s0] w = p_ev scr 145 28 [.ref 24, .int x1, .int x2, .int x3] [.int s0] w) ∧
  (∀ (scr : pX) (w : pW) (x1 : Int32) (x2 : Int32) (x3 : Int32), p_ev scr 145 27 [.ref 24, .int x1, .int x2, .int x3] [] w = p_ev scr 145 28 [.ref 24, .int x1, .int x2, .int x3] [.int (-1 : Int32)] w) ∧
  (∀ (scr : pX) (w : pW) (x1 : Int32) (x2 : Int32) (x3 : Int32) (s0 : Int32), p_ev scr 145 28 [.ref 24, .int x1, .int x2, .int x3] [.int s0] w = some (.inl (some (.int s0)), w, 0)) :=
  ⟨fun _ _ _ _ => p_r (by decide +kernel : p_at 145 0 = some (.iload_n 1)) rfl,
  fun _ _ _ _ _ => p_r (by decide +kernel : p_at 145 1 = some (.iload_n 2)) rfl,
  fun _ _ _ _ _ _ => p_rb2 (c := fun x y => decide (y ≤ x)) (off := 9) (by decide +kernel : p_at 145 2 = some (.if_icmp .ge 9)) (by decide +kernel) rfl rfl rfl,
  fun _ _ _ _ => p_r (by decide +kernel : p_at 145 5 = some (.iload_n 1)) rfl,
  fun _ _ _ _ _ => p_r (by decide +kernel : p_at 145 6 = some (.iload_n 2)) rfl,
  fun _ _ _ _ _ _ => p_r (by decide +kernel : p_at 145 7 = some (.iadd)) rfl,
  fun _ _ _ _ _ => p_rgo (by decide +kernel : p_at 145 8 = some (.goto 6)) (by decide +kernel),
  fun _ _ _ _ => p_r (by decide +kernel : p_at 145 11 = some (.iconst 2)) rfl,
  fun _ _ _ _ _ => p_r (by decide +kernel : p_at 145 12 = some (.iload_n 1)) rfl,
  fun _ _ _ _ _ _ => p_r (by decide +kernel : p_at 145 13 = some (.imul)) rfl,
  fun _ _ _ _ _ => p_r (by decide +kernel : p_at 145 14 = some (.istore_n 3)) rfl,
  fun _ _ _ _ _ => p_r (by decide +kernel : p_at 145 15 = some (.iload_n 3)) rfl,
  fun _ _ _ _ _ _ => p_r (by decide +kernel : p_at 145 16 = some (.aload_n 0)) rfl,
  fun _ _ _ _ _ _ => p_rgf (f := none) (by decide +kernel : p_at 145 17 = some (.getfield 17)) (by decide +kernel : p_fld (p_own 145) 17 = some (5, 2)) (rfl : p_ob 24 = some (.inr (5, [some 25, some 26, none, none, none, some 27, some 28, some 29, some 30, some 31, some 32, some 33, some 34, some 35, some 36, some 37, some 38, some 39, none, none, some 40]))) rfl,
  fun _ _ _ _ _ _ _ => p_rb2 (c := fun x y => decide (y ≤ x)) (off := 7) (by decide +kernel : p_at 145 20 = some (.if_icmp .ge 7)) (by decide +kernel) rfl rfl rfl,
  fun _ _ _ _ _ => p_r (by decide +kernel : p_at 145 23 = some (.iload_n 3)) rfl,
  fun _ _ _ _ _ _ => p_rgo (by decide +kernel : p_at 145 24 = some (.goto 4)) (by decide +kernel),
  fun _ _ _ _ _ => p_r (by decide +kernel : p_at 145 27 = some (.iconst (-1))) rfl,
  fun _ _ _ _ _ _ => p_riret (by decide +kernel : p_at 145 28 = some (.ireturn)) (by decide +kernel)⟩
-- 146: isUnder
theorem M146 :
  (∀ (scr : pX) (w : pW) (x1 : Int32) (x2 : Int32) (x3 : Int32), p_ev scr 146 0 [.ref 24, .int x1, .int x2, .int x3, p_U] [] w = p_ev scr 146 1 [.ref 24, .int x1, .int x2, .int x3, p_U] [.int x1] w) ∧
  (∀ (scr : pX) (w : pW) (x1 : Int32) (x2 : Int32) (x3 : Int32) (s0 : Int32), p_ev scr 146 1 [.ref 24, .int x1, .int x2, .int x3, p_U] [.int s0] w = p_ev scr 146 3 [.ref 24, .int x1, .int x2, .int x3, .int s0] [] w) ∧
  (∀ (scr : pX) (w : pW) (x1 : Int32) (x2 : Int32) (x3 : Int32) (x4 : Int32) (s0 : Int32), p_ev scr 146 5 [.ref 24, .int x1, .int x2, .int x3, .int x4] [.int s0] w = p_ev scr 146 6 [.ref 24, .int x1, .int x2, .int x3, .int x4] [.int x2, .int s0] w) ∧
  (∀ (scr : pX) (w : pW) (x1 : Int32) (x2 : Int32) (x3 : Int32) (x4 : Int32) (s0 : Int32) (s1 : Int32), p_ev scr 146 6 [.ref 24, .int x1, .int x2, .int x3, .int x4] [.int s0, .int s1] w = if s1 ≤ s0 then p_ev scr 146 43 [.ref 24, .int x1, .int x2, .int x3, .int x4] [] w else p_ev scr 146 9 [.ref 24, .int x1, .int x2, .int x3, .int x4] [] w) ∧
  (∀ (scr : pX) (w : pW) (x1 : Int32) (x2 : Int32) (x3 : Int32) (x4 : Int32), p_ev scr 146 9 [.ref 24, .int x1, .int x2, .int x3, .int x4] [] w = p_ev scr 146 11 [.ref 24, .int x1, .int x2, .int x3, .int x4] [.int x4] w) ∧
  (∀ (scr : pX) (w : pW) (x1 : Int32) (x2 : Int32) (x3 : Int32) (x4 : Int32) (s0 : Int32), p_ev scr 146 11 [.ref 24, .int x1, .int x2, .int x3, .int x4] [.int s0] w = p_ev scr 146 12 [.ref 24, .int x1, .int x2, .int x3, .int x4] [.int (nI 2), .int s0] w) ∧
  (∀ (scr : pX) (w : pW) (x1 : Int32) (x2 : Int32) (x3 : Int32) (x4 : Int32) (s0 : Int32) (s1 : Int32), p_ev scr 146 12 [.ref 24, .int x1, .int x2, .int x3, .int x4] [.int s0, .int s1] w = p_ev scr 146 13 [.ref 24, .int x1, .int x2, .int x3, .int x4] [.int x3, .int s0, .int s1] w) ∧
  (∀ (scr : pX) (w : pW) (x1 : Int32) (x2 : Int32) (x3 : Int32) (x4 : Int32) (s0 : Int32) (s1 : Int32) (s2 : Int32), p_ev scr 146 13 [.ref 24, .int x1, .int x2, .int x3, .int x4] [.int s0, .int s1, .int s2] w = p_ev scr 146 14 [.ref 24, .int x1, .int x2, .int x3, .int x4] [.int (s1 * s0), .int s2] w) ∧
  (∀ (scr : pX) (w : pW) (x1 : Int32) (x2 : Int32) (x3 : Int32) (x4 : Int32) (s0 : Int32) (s1 : Int32), p_ev scr 146 14 [.ref 24, .int x1, .int x2, .int x3, .int x4] [.int s0, .int s1] w = if s1 < s0 then p_ev scr 146 24 [.ref 24, .int x1, .int x2, .int x3, .int x4] [] w else p_ev scr 146 17 [.ref 24, .int x1, .int x2, .int x3, .int x4] [] w) ∧
  (∀ (scr : pX) (w : pW) (x1 : Int32) (x2 : Int32) (x3 : Int32) (x4 : Int32), p_ev scr 146 17 [.ref 24, .int x1, .int x2, .int x3, .int x4] [] w = p_ev scr 146 19 [.ref 24, .int x1, .int x2, .int x3, .int x4] [.int x4] w) ∧
  (∀ (scr : pX) (w : pW) (x1 : Int32) (x2 : Int32) (x3 : Int32) (x4 : Int32) (s0 : Int32), p_ev scr 146 19 [.ref 24, .int x1, .int x2, .int x3, .int x4] [.int s0] w = p_ev scr 146 20 [.ref 24, .int x1, .int x2, .int x3, .int x4] [.int (nI 2), .int s0] w) ∧
  (∀ (scr : pX) (w : pW) (x1 : Int32) (x2 : Int32) (x3 : Int32) (x4 : Int32) (s0 : Int32) (s1 : Int32), ¬ s0 = 0 → p_ev scr 146 20 [.ref 24, .int x1, .int x2, .int x3, .int x4] [.int s0, .int s1] w = p_ev scr 146 21 [.ref 24, .int x1, .int x2, .int x3, .int x4] [.int (s1 / s0)] w) ∧
  (∀ (scr : pX) (w : pW) (x1 : Int32) (x2 : Int32) (x3 : Int32) (x4 : Int32) (s0 : Int32), p_ev scr 146 21 [.ref 24, .int x1, .int x2, .int x3, .int x4] [.int s0] w = p_ev scr 146 38 [.ref 24, .int x1, .int x2, .int x3, .int x4] [.int s0] w) ∧
  (∀ (scr : pX) (w : pW) (x1 : Int32) (x2 : Int32) (x3 : Int32) (x4 : Int32), p_ev scr 146 24 [.ref 24, .int x1, .int x2, .int x3, .int x4] [] w = p_ev scr 146 26 [.ref 24, .int x1, .int x2, .int x3, .int x4] [.int x4] w) ∧
  (∀ (scr : pX) (w : pW) (x1 : Int32) (x2 : Int32) (x3 : Int32) (x4 : Int32) (s0 : Int32), p_ev scr 146 26 [.ref 24, .int x1, .int x2, .int x3, .int x4] [.int s0] w = p_ev scr 146 27 [.ref 24, .int x1, .int x2, .int x3, .int x4] [.int x3, .int s0] w) ∧
  (∀ (scr : pX) (w : pW) (x1 : Int32) (x2 : Int32) (x3 : Int32) (x4 : Int32) (s0 : Int32) (s1 : Int32), p_ev scr 146 27 [.ref 24, .int x1, .int x2, .int x3, .int x4] [.int s0, .int s1] w = if s1 < s0 then p_ev scr 146 37 [.ref 24, .int x1, .int x2, .int x3, .int x4] [] w else p_ev scr 146 30 [.ref 24, .int x1, .int x2, .int x3, .int x4] [] w) ∧
  (∀ (scr : pX) (w : pW) (x1 : Int32) (x2 : Int32) (x3 : Int32) (x4 : Int32), p_ev scr 146 30 [.ref 24, .int x1, .int x2, .int x3, .int x4] [] w = p_ev scr 146 32 [.ref 24, .int x1, .int x2, .int x3, .int x4] [.int x4] w) ∧
  (∀ (scr : pX) (w : pW) (x1 : Int32) (x2 : Int32) (x3 : Int32) (x4 : Int32) (s0 : Int32), p_ev scr 146 32 [.ref 24, .int x1, .int x2, .int x3, .int x4] [.int s0] w = p_ev scr 146 33 [.ref 24, .int x1, .int x2, .int x3, .int x4] [.int x3, .int s0] w) ∧
  (∀ (scr : pX) (w : pW) (x1 : Int32) (x2 : Int32) (x3 : Int32) (x4 : Int32) (s0 : Int32) (s1 : Int32), p_ev scr 146 33 [.ref 24, .int x1, .int x2, .int x3, .int x4] [.int s0, .int s1] w = p_ev scr 146 34 [.ref 24, .int x1, .int x2, .int x3, .int x4] [.int (s1 - s0)] w) ∧
  (∀ (scr : pX) (w : pW) (x1 : Int32) (x2 : Int32) (x3 : Int32) (x4 : Int32) (s0 : Int32), p_ev scr 146 34 [.ref 24, .int x1, .int x2, .int x3, .int x4] [.int s0] w = p_ev scr 146 38 [.ref 24, .int x1, .int x2, .int x3, .int x4] [.int s0] w) ∧
  (∀ (scr : pX) (w : pW) (x1 : Int32) (x2 : Int32) (x3 : Int32) (x4 : Int32), p_ev scr 146 37 [.ref 24, .int x1, .int x2, .int x3, .int x4] [] w = p_ev scr 146 38 [.ref 24, .int x1, .int x2, .int x3, .int x4] [.int (-1 : Int32)] w) ∧
  (∀ (scr : pX) (w : pW) (x1 : Int32) (x2 : Int32) (x3 : Int32) (x4 : Int32) (s0 : Int32), p_ev scr 146 38 [.ref 24, .int x1, .int x2, .int x3, .int x4] [.int s0] w = p_ev scr 146 40 [.ref 24, .int x1, .int x2, .int x3, .int s0] [] w) ∧
  (∀ (scr : pX) (w : pW) (x1 : Int32) (x2 : Int32) (x3 : Int32) (x4 : Int32), p_ev scr 146 40 [.ref 24, .int x1, .int x2, .int x3, .int x4] [] w = p_ev scr 146 3 [.ref 24, .int x1, .int x2, .int x3, .int x4] [] w) ∧
  (∀ (scr : pX) (w : pW) (x1 : Int32) (x2 : Int32) (x3 : Int32) (x4 : Int32), p_ev scr 146 43 [.ref 24, .int x1, .int x2, .int x3, .int x4] [] w = p_ev scr 146 45 [.ref 24, .int x1, .int x2, .int x3, .int x4] [.int x4] w) ∧
  (∀ (scr : pX) (w : pW) (x1 : Int32) (x2 : Int32) (x3 : Int32) (x4 : Int32) (s0 : Int32), p_ev scr 146 45 [.ref 24, .int x1, .int x2, .int x3, .int x4] [.int s0] w = p_ev scr 146 46 [.ref 24, .int x1, .int x2, .int x3, .int x4] [.int x2, .int s0] w) ∧
  (∀ (scr : pX) (w : pW) (x1 : Int32) (x2 : Int32) (x3 : Int32) (x4 : Int32) (s0 : Int32) (s1 : Int32), p_ev scr 146 46 [.ref 24, .int x1, .int x2, .int x3, .int x4] [.int s0, .int s1] w = if ¬ s1 = s0 then p_ev scr 146 53 [.ref 24, .int x1, .int x2, .int x3, .int x4] [] w else p_ev scr 146 49 [.ref 24, .int x1, .int x2, .int x3, .int x4] [] w) ∧
  (∀ (scr : pX) (w : pW) (x1 : Int32) (x2 : Int32) (x3 : Int32) (x4 : Int32), p_ev scr 146 49 [.ref 24, .int x1, .int x2, .int x3, .int x4] [] w = p_ev scr 146 50 [.ref 24, .int x1, .int x2, .int x3, .int x4] [.int (nI 1)] w) ∧
  (∀ (scr : pX) (w : pW) (x1 : Int32) (x2 : Int32) (x3 : Int32) (x4 : Int32) (s0 : Int32), p_ev scr 146 50 [.ref 24, .int x1, .int x2, .int x3, .int x4] [.int s0] w = p_ev scr 146 54 [.ref 24, .int x1, .int x2, .int x3, .int x4] [.int s0] w) ∧
  (∀ (scr : pX) (w : pW) (x1 : Int32) (x2 : Int32) (x3 : Int32) (x4 : Int32), p_ev scr 146 53 [.ref 24, .int x1, .int x2, .int x3, .int x4] [] w = p_ev scr 146 54 [.ref 24, .int x1, .int x2, .int x3, .int x4] [.int (nI 0)] w) ∧
  (∀ (scr : pX) (w : pW) (x1 : Int32) (x2 : Int32) (x3 : Int32) (x4 : Int32) (s0 : Int32), narrow .boolean (.int s0) = .int s0 → p_ev scr 146 54 [.ref 24, .int x1, .int x2, .int x3, .int x4] [.int s0] w = some (.inl (some (.int s0)), w, 0)) :=
  ⟨fun _ _ _ _ _ => p_r (by decide +kernel : p_at 146 0 = some (.iload_n 1)) rfl,
  fun _ _ _ _ _ _ => p_r (by decide +kernel : p_at 146 1 = some (.istore 4)) rfl,
  fun _ _ _ _ _ _ _ => p_r (by decide +kernel : p_at 146 5 = some (.iload_n 2)) rfl,
  fun _ _ _ _ _ _ _ _ => p_rb2 (c := fun x y => decide (x ≤ y)) (off := 37) (by decide +kernel : p_at 146 6 = some (.if_icmp .le 37)) (by decide +kernel) rfl rfl rfl,
  fun _ _ _ _ _ _ => p_r (by decide +kernel : p_at 146 9 = some (.iload 4)) rfl,
  fun _ _ _ _ _ _ _ => p_r (by decide +kernel : p_at 146 11 = some (.iconst 2)) rfl,
  fun _ _ _ _ _ _ _ _ => p_r (by decide +kernel : p_at 146 12 = some (.iload_n 3)) rfl,
  fun _ _ _ _ _ _ _ _ _ => p_r (by decide +kernel : p_at 146 13 = some (.imul)) rfl,
  fun _ _ _ _ _ _ _ _ => p_rb2 (c := fun x y => decide (x < y)) (off := 10) (by decide +kernel : p_at 146 14 = some (.if_icmp .lt 10)) (by decide +kernel) rfl rfl rfl,
  fun _ _ _ _ _ _ => p_r (by decide +kernel : p_at 146 17 = some (.iload 4)) rfl,
  fun _ _ _ _ _ _ _ => p_r (by decide +kernel : p_at 146 19 = some (.iconst 2)) rfl,
  fun _ _ _ _ _ _ _ _ hp => p_ridiv (by decide +kernel : p_at 146 20 = some (.idiv)) hp,
  fun _ _ _ _ _ _ _ => p_rgo (by decide +kernel : p_at 146 21 = some (.goto 17)) (by decide +kernel),
  fun _ _ _ _ _ _ => p_r (by decide +kernel : p_at 146 24 = some (.iload 4)) rfl,
  fun _ _ _ _ _ _ _ => p_r (by decide +kernel : p_at 146 26 = some (.iload_n 3)) rfl,
  fun _ _ _ _ _ _ _ _ => p_rb2 (c := fun x y => decide (x < y)) (off := 10) (by decide +kernel : p_at 146 27 = some (.if_icmp .lt 10)) (by decide +kernel) rfl rfl rfl,
  fun _ _ _ _ _ _ => p_r (by decide +kernel : p_at 146 30 = some (.iload 4)) rfl,
  fun _ _ _ _ _ _ _ => p_r (by decide +kernel : p_at 146 32 = some (.iload_n 3)) rfl,
  fun _ _ _ _ _ _ _ _ => p_r (by decide +kernel : p_at 146 33 = some (.isub)) rfl,
  fun _ _ _ _ _ _ _ => p_rgo (by decide +kernel : p_at 146 34 = some (.goto 4)) (by decide +kernel),
  fun _ _ _ _ _ _ => p_r (by decide +kernel : p_at 146 37 = some (.iconst (-1))) rfl,
  fun _ _ _ _ _ _ _ => p_r (by decide +kernel : p_at 146 38 = some (.istore 4)) rfl,
  fun _ _ _ _ _ _ => p_rgo (by decide +kernel : p_at 146 40 = some (.goto (-37))) (by decide +kernel),
  fun _ _ _ _ _ _ => p_r (by decide +kernel : p_at 146 43 = some (.iload 4)) rfl,
  fun _ _ _ _ _ _ _ => p_r (by decide +kernel : p_at 146 45 = some (.iload_n 2)) rfl,
  fun _ _ _ _ _ _ _ _ => p_rb2 (c := fun x y => decide (¬ x = y)) (off := 7) (by decide +kernel : p_at 146 46 = some (.if_icmp .ne 7)) (by decide +kernel) rfl rfl rfl,
  fun _ _ _ _ _ _ => p_r (by decide +kernel : p_at 146 49 = some (.iconst 1)) rfl,
  fun _ _ _ _ _ _ _ => p_rgo (by decide +kernel : p_at 146 50 = some (.goto 4)) (by decide +kernel),
  fun _ _ _ _ _ _ => p_r (by decide +kernel : p_at 146 53 = some (.iconst 0)) rfl,
  fun _ _ _ _ _ _ _ hp => p_rzret (by decide +kernel : p_at 146 54 = some (.ireturn)) (by decide +kernel) hp⟩
theorem H146_3 :
  (∀ (scr : pX) (w : pW) (x1 : Int32) (x2 : Int32) (x3 : Int32) (x4 : Int32), p_ev scr 146 3 [.ref 24, .int x1, .int x2, .int x3, .int x4] [] w = p_ev scr 146 5 [.ref 24, .int x1, .int x2, .int x3, .int x4] [.int x4] w) :=
  fun _ _ _ _ _ _ => p_r (by decide +kernel : p_at 146 3 = some (.iload 4)) rfl
-- 147: anyUnder
theorem M147 :
  (∀ (scr : pX) (w : pW) (x1 : Int32) (x2 : Int32) (x3 : Int32), p_ev scr 147 0 [.ref 24, .int x1, .int x2, .int x3, p_U, p_U] [] w = p_ev scr 147 1 [.ref 24, .int x1, .int x2, .int x3, p_U, p_U] [.int (nI 0)] w) ∧
  (∀ (scr : pX) (w : pW) (x1 : Int32) (x2 : Int32) (x3 : Int32) (s0 : Int32), p_ev scr 147 1 [.ref 24, .int x1, .int x2, .int x3, p_U, p_U] [.int s0] w = p_ev scr 147 3 [.ref 24, .int x1, .int x2, .int x3, .int s0, p_U] [] w) ∧
  (∀ (scr : pX) (w : pW) (x1 : Int32) (x2 : Int32) (x3 : Int32) (x4 : Int32), p_ev scr 147 3 [.ref 24, .int x1, .int x2, .int x3, .int x4, p_U] [] w = p_ev scr 147 4 [.ref 24, .int x1, .int x2, .int x3, .int x4, p_U] [.int x1] w) ∧
  (∀ (scr : pX) (w : pW) (x1 : Int32) (x2 : Int32) (x3 : Int32) (x4 : Int32) (s0 : Int32), p_ev scr 147 4 [.ref 24, .int x1, .int x2, .int x3, .int x4, p_U] [.int s0] w = p_ev scr 147 5 [.ref 24, .int x1, .int x2, .int x3, .int x4, p_U] [.int (nI 1), .int s0] w) ∧
  (∀ (scr : pX) (w : pW) (x1 : Int32) (x2 : Int32) (x3 : Int32) (x4 : Int32) (s0 : Int32) (s1 : Int32), p_ev scr 147 5 [.ref 24, .int x1, .int x2, .int x3, .int x4, p_U] [.int s0, .int s1] w = p_ev scr 147 6 [.ref 24, .int x1, .int x2, .int x3, .int x4, p_U] [.int (s1 + s0)] w) ∧
  (∀ (scr : pX) (w : pW) (x1 : Int32) (x2 : Int32) (x3 : Int32) (x4 : Int32) (s0 : Int32), p_ev scr 147 6 [.ref 24, .int x1, .int x2, .int x3, .int x4, p_U] [.int s0] w = p_ev scr 147 8 [.ref 24, .int x1, .int x2, .int x3, .int x4, .int s0] [] w) ∧
  (∀ (scr : pX) (w : pW) (x1 : Int32) (x2 : Int32) (x3 : Int32) (x4 : Int32) (x5 : Int32) (s0 : Int32), p_ev scr 147 10 [.ref 24, .int x1, .int x2, .int x3, .int x4, .int x5] [.int s0] w = p_ev scr 147 11 [.ref 24, .int x1, .int x2, .int x3, .int x4, .int x5] [.ref 24, .int s0] w) ∧
  (∀ (scr : pX) (w : pW) (x1 : Int32) (x2 : Int32) (x3 : Int32) (x4 : Int32) (x5 : Int32) (s1 : Int32), p_ev scr 147 11 [.ref 24, .int x1, .int x2, .int x3, .int x4, .int x5] [.ref 24, .int s1] w = p_ev scr 147 14 [.ref 24, .int x1, .int x2, .int x3, .int x4, .int x5] [.int (w.1 24 2), .int s1] w) ∧
  (∀ (scr : pX) (w : pW) (x1 : Int32) (x2 : Int32) (x3 : Int32) (x4 : Int32) (x5 : Int32) (s0 : Int32) (s1 : Int32), p_ev scr 147 14 [.ref 24, .int x1, .int x2, .int x3, .int x4, .int x5] [.int s0, .int s1] w = if s0 ≤ s1 then p_ev scr 147 63 [.ref 24, .int x1, .int x2, .int x3, .int x4, .int x5] [] w else p_ev scr 147 17 [.ref 24, .int x1, .int x2, .int x3, .int x4, .int x5] [] w) ∧
  (∀ (scr : pX) (w : pW) (x1 : Int32) (x2 : Int32) (x3 : Int32) (x4 : Int32) (x5 : Int32), p_ev scr 147 17 [.ref 24, .int x1, .int x2, .int x3, .int x4, .int x5] [] w = p_ev scr 147 19 [.ref 24, .int x1, .int x2, .int x3, .int x4, .int x5] [.int x4] w) ∧
  (∀ (scr : pX) (w : pW) (x1 : Int32) (x2 : Int32) (x3 : Int32) (x4 : Int32) (x5 : Int32) (s0 : Int32), p_ev scr 147 19 [.ref 24, .int x1, .int x2, .int x3, .int x4, .int x5] [.int s0] w = if ¬ s0 = nI 0 then p_ev scr 147 63 [.ref 24, .int x1, .int x2, .int x3, .int x4, .int x5] [] w else p_ev scr 147 22 [.ref 24, .int x1, .int x2, .int x3, .int x4, .int x5] [] w) ∧
  (∀ (scr : pX) (w : pW) (x1 : Int32) (x2 : Int32) (x3 : Int32) (x4 : Int32) (x5 : Int32), p_ev scr 147 22 [.ref 24, .int x1, .int x2, .int x3, .int x4, .int x5] [] w = p_ev scr 147 23 [.ref 24, .int x1, .int x2, .int x3, .int x4, .int x5] [.ref 24] w) ∧
  (∀ (scr : pX) (w : pW) (x1 : Int32) (x2 : Int32) (x3 : Int32) (x4 : Int32) (x5 : Int32), p_ev scr 147 23 [.ref 24, .int x1, .int x2, .int x3, .int x4, .int x5] [.ref 24] w = p_ev scr 147 26 [.ref 24, .int x1, .int x2, .int x3, .int x4, .int x5] [.ref 32] w) ∧
  (∀ (scr : pX) (w : pW) (x1 : Int32) (x2 : Int32) (x3 : Int32) (x4 : Int32) (x5 : Int32), p_ev scr 147 26 [.ref 24, .int x1, .int x2, .int x3, .int x4, .int x5] [.ref 32] w = p_ev scr 147 28 [.ref 24, .int x1, .int x2, .int x3, .int x4, .int x5] [.int x5, .ref 32] w) ∧
  (∀ (scr : pX) (w : pW) (x1 : Int32) (x2 : Int32) (x3 : Int32) (x4 : Int32) (x5 : Int32) (s0 : Int32), p_out s0 32 = false → p_ev scr 147 28 [.ref 24, .int x1, .int x2, .int x3, .int x4, .int x5] [.int s0, .ref 32] w = p_ev scr 147 29 [.ref 24, .int x1, .int x2, .int x3, .int x4, .int x5] [.long (w.2.1 32 s0.toNatClampNeg)] w) ∧
  (∀ (scr : pX) (w : pW) (x1 : Int32) (x2 : Int32) (x3 : Int32) (x4 : Int32) (x5 : Int32) (t0 : Int64), p_ev scr 147 29 [.ref 24, .int x1, .int x2, .int x3, .int x4, .int x5] [.long t0] w = p_bnd scr 147 29 32 [.ref 24, .int x1, .int x2, .int x3, .int x4, .int x5] [] (p_ev none 98 0 [.long t0, p_U] [] w)) ∧
  (∀ (scr : pX) (w : pW) (x1 : Int32) (x2 : Int32) (x3 : Int32) (x4 : Int32) (x5 : Int32) (t0 : Int64), p_ev scr 147 32 [.ref 24, .int x1, .int x2, .int x3, .int x4, .int x5] [.long t0] w = p_ev scr 147 33 [.ref 24, .int x1, .int x2, .int x3, .int x4, .int x5] [.int x3, .long t0] w) ∧
  (∀ (scr : pX) (w : pW) (x1 : Int32) (x2 : Int32) (x3 : Int32) (x4 : Int32) (x5 : Int32) (s0 : Int32) (t1 : Int64), p_ev scr 147 33 [.ref 24, .int x1, .int x2, .int x3, .int x4, .int x5] [.int s0, .long t1] w = p_ev scr 147 34 [.ref 24, .int x1, .int x2, .int x3, .int x4, .int x5] [.long (t1 >>> (s0.toInt64 &&& 63))] w) ∧
  (∀ (scr : pX) (w : pW) (x1 : Int32) (x2 : Int32) (x3 : Int32) (x4 : Int32) (x5 : Int32) (t0 : Int64), p_ev scr 147 34 [.ref 24, .int x1, .int x2, .int x3, .int x4, .int x5] [.long t0] w = p_ev scr 147 35 [.ref 24, .int x1, .int x2, .int x3, .int x4, .int x5] [.long (lN 0), .long t0] w) ∧
  (∀ (scr : pX) (w : pW) (x1 : Int32) (x2 : Int32) (x3 : Int32) (x4 : Int32) (x5 : Int32) (t0 : Int64) (t1 : Int64), p_ev scr 147 35 [.ref 24, .int x1, .int x2, .int x3, .int x4, .int x5] [.long t0, .long t1] w = p_ev scr 147 36 [.ref 24, .int x1, .int x2, .int x3, .int x4, .int x5] [.int (lg_cmp t1 t0)] w) ∧
  (∀ (scr : pX) (w : pW) (x1 : Int32) (x2 : Int32) (x3 : Int32) (x4 : Int32) (x5 : Int32) (s0 : Int32), p_ev scr 147 36 [.ref 24, .int x1, .int x2, .int x3, .int x4, .int x5] [.int s0] w = if s0 ≤ nI 0 then p_ev scr 147 54 [.ref 24, .int x1, .int x2, .int x3, .int x4, .int x5] [] w else p_ev scr 147 39 [.ref 24, .int x1, .int x2, .int x3, .int x4, .int x5] [] w) ∧
  (∀ (scr : pX) (w : pW) (x1 : Int32) (x2 : Int32) (x3 : Int32) (x4 : Int32) (x5 : Int32), p_ev scr 147 39 [.ref 24, .int x1, .int x2, .int x3, .int x4, .int x5] [] w = p_ev scr 147 40 [.ref 24, .int x1, .int x2, .int x3, .int x4, .int x5] [.ref 24] w) ∧
  (∀ (scr : pX) (w : pW) (x1 : Int32) (x2 : Int32) (x3 : Int32) (x4 : Int32) (x5 : Int32), p_ev scr 147 40 [.ref 24, .int x1, .int x2, .int x3, .int x4, .int x5] [.ref 24] w = p_ev scr 147 42 [.ref 24, .int x1, .int x2, .int x3, .int x4, .int x5] [.int x5, .ref 24] w) ∧
  (∀ (scr : pX) (w : pW) (x1 : Int32) (x2 : Int32) (x3 : Int32) (x4 : Int32) (x5 : Int32) (s0 : Int32), p_ev scr 147 42 [.ref 24, .int x1, .int x2, .int x3, .int x4, .int x5] [.int s0, .ref 24] w = p_ev scr 147 43 [.ref 24, .int x1, .int x2, .int x3, .int x4, .int x5] [.int x1, .int s0, .ref 24] w) ∧
  (∀ (scr : pX) (w : pW) (x1 : Int32) (x2 : Int32) (x3 : Int32) (x4 : Int32) (x5 : Int32) (s0 : Int32) (s1 : Int32), p_ev scr 147 43 [.ref 24, .int x1, .int x2, .int x3, .int x4, .int x5] [.int s0, .int s1, .ref 24] w = p_ev scr 147 44 [.ref 24, .int x1, .int x2, .int x3, .int x4, .int x5] [.int x2, .int s0, .int s1, .ref 24] w) ∧
  (∀ (scr : pX) (w : pW) (x1 : Int32) (x2 : Int32) (x3 : Int32) (x4 : Int32) (x5 : Int32) (s0 : Int32) (s1 : Int32) (s2 : Int32), p_ev scr 147 44 [.ref 24, .int x1, .int x2, .int x3, .int x4, .int x5] [.int s0, .int s1, .int s2, .ref 24] w = p_bnd scr 147 44 47 [.ref 24, .int x1, .int x2, .int x3, .int x4, .int x5] [] (p_ev none 146 0 [.ref 24, .int s2, .int s1, .int s0, p_U] [] w)) ∧
  (∀ (scr : pX) (w : pW) (x1 : Int32) (x2 : Int32) (x3 : Int32) (x4 : Int32) (x5 : Int32) (s0 : Int32), p_ev scr 147 47 [.ref 24, .int x1, .int x2, .int x3, .int x4, .int x5] [.int s0] w = if s0 = nI 0 then p_ev scr 147 54 [.ref 24, .int x1, .int x2, .int x3, .int x4, .int x5] [] w else p_ev scr 147 50 [.ref 24, .int x1, .int x2, .int x3, .int x4, .int x5] [] w) ∧
  (∀ (scr : pX) (w : pW) (x1 : Int32) (x2 : Int32) (x3 : Int32) (x4 : Int32) (x5 : Int32), p_ev scr 147 50 [.ref 24, .int x1, .int x2, .int x3, .int x4, .int x5] [] w = p_ev scr 147 51 [.ref 24, .int x1, .int x2, .int x3, .int x4, .int x5] [.int (nI 1)] w) ∧
  (∀ (scr : pX) (w : pW) (x1 : Int32) (x2 : Int32) (x3 : Int32) (x4 : Int32) (x5 : Int32) (s0 : Int32), p_ev scr 147 51 [.ref 24, .int x1, .int x2, .int x3, .int x4, .int x5] [.int s0] w = p_ev scr 147 55 [.ref 24, .int x1, .int x2, .int x3, .int x4, .int x5] [.int s0] w) ∧
  (∀ (scr : pX) (w : pW) (x1 : Int32) (x2 : Int32) (x3 : Int32) (x4 : Int32) (x5 : Int32), p_ev scr 147 54 [.ref 24, .int x1, .int x2, .int x3, .int x4, .int x5] [] w = p_ev scr 147 55 [.ref 24, .int x1, .int x2, .int x3, .int x4, .int x5] [.int (nI 0)] w) ∧
  (∀ (scr : pX) (w : pW) (x1 : Int32) (x2 : Int32) (x3 : Int32) (x4 : Int32) (x5 : Int32) (s0 : Int32), p_ev scr 147 55 [.ref 24, .int x1, .int x2, .int x3, .int x4, .int x5] [.int s0] w = p_ev scr 147 57 [.ref 24, .int x1, .int x2, .int x3, .int s0, .int x5] [] w) ∧
  (∀ (scr : pX) (w : pW) (x1 : Int32) (x2 : Int32) (x3 : Int32) (x4 : Int32) (x5 : Int32), p_ev scr 147 57 [.ref 24, .int x1, .int x2, .int x3, .int x4, .int x5] [] w = p_ev scr 147 60 [.ref 24, .int x1, .int x2, .int x3, .int x4, .int (x5 + (nI 1))] [] w) ∧
  (∀ (scr : pX) (w : pW) (x1 : Int32) (x2 : Int32) (x3 : Int32) (x4 : Int32) (x5 : Int32), p_ev scr 147 60 [.ref 24, .int x1, .int x2, .int x3, .int x4, .int x5] [] w = p_ev scr 147 8 [.ref 24, .int x1, .int x2, .int x3, .int x4, .int x5] [] w) ∧
  (∀ (scr : pX) (w : pW) (x1 : Int32) (x2 : Int32) (x3 : Int32) (x4 : Int32) (x5 : Int32), p_ev scr 147 63 [.ref 24, .int x1, .int x2, .int x3, .int x4, .int x5] [] w = p_ev scr 147 65 [.ref 24, .int x1, .int x2, .int x3, .int x4, .int x5] [.int x4] w) ∧
  (∀ (scr : pX) (w : pW) (x1 : Int32) (x2 : Int32) (x3 : Int32) (x4 : Int32) (x5 : Int32) (s0 : Int32), narrow .boolean (.int s0) = .int s0 → p_ev scr 147 65 [.ref 24, .int x1, .int x2, .int x3, .int x4, .int x5] [.int s0] w = some (.inl (some (.int s0)), w, 0)) :=
  ⟨fun _ _ _ _ _ => p_r (by decide +kernel : p_at 147 0 = some (.iconst 0)) rfl,
  fun _ _ _ _ _ _ => p_r (by decide +kernel : p_at 147 1 = some (.istore 4)) rfl,
  fun _ _ _ _ _ _ => p_r (by decide +kernel : p_at 147 3 = some (.iload_n 1)) rfl,
  fun _ _ _ _ _ _ _ => p_r (by decide +kernel : p_at 147 4 = some (.iconst 1)) rfl,
  fun _ _ _ _ _ _ _ _ => p_r (by decide +kernel : p_at 147 5 = some (.iadd)) rfl,
  fun _ _ _ _ _ _ _ => p_r (by decide +kernel : p_at 147 6 = some (.istore 5)) rfl,
  fun _ _ _ _ _ _ _ _ => p_r (by decide +kernel : p_at 147 10 = some (.aload_n 0)) rfl,
  fun _ _ _ _ _ _ _ _ => p_rgf (f := none) (by decide +kernel : p_at 147 11 = some (.getfield 17)) (by decide +kernel : p_fld (p_own 147) 17 = some (5, 2)) (rfl : p_ob 24 = some (.inr (5, [some 25, some 26, none, none, none, some 27, some 28, some 29, some 30, some 31, some 32, some 33, some 34, some 35, some 36, some 37, some 38, some 39, none, none, some 40]))) rfl,
  fun _ _ _ _ _ _ _ _ _ => p_rb2 (c := fun x y => decide (y ≤ x)) (off := 49) (by decide +kernel : p_at 147 14 = some (.if_icmp .ge 49)) (by decide +kernel) rfl rfl rfl,
  fun _ _ _ _ _ _ _ => p_r (by decide +kernel : p_at 147 17 = some (.iload 4)) rfl,
  fun _ _ _ _ _ _ _ _ => p_rb1 (c := fun x => decide (¬ x = 0)) (off := 44) (by decide +kernel : p_at 147 19 = some (.ifCond .ne 44)) (by decide +kernel) rfl rfl rfl,
  fun _ _ _ _ _ _ _ => p_r (by decide +kernel : p_at 147 22 = some (.aload_n 0)) rfl,
  fun _ _ _ _ _ _ _ => p_rgf (f := some 32) (by decide +kernel : p_at 147 23 = some (.getfield 36)) (by decide +kernel : p_fld (p_own 147) 36 = some (5, 10)) (rfl : p_ob 24 = some (.inr (5, [some 25, some 26, none, none, none, some 27, some 28, some 29, some 30, some 31, some 32, some 33, some 34, some 35, some 36, some 37, some 38, some 39, none, none, some 40]))) rfl,
  fun _ _ _ _ _ _ _ => p_r (by decide +kernel : p_at 147 26 = some (.iload 5)) rfl,
  fun _ _ _ _ _ _ _ _ hp => p_rlald (by decide +kernel : p_at 147 28 = some (.laload)) (rfl : p_ob 32 = some (.inl (2, 32))) hp,
  fun _ _ _ _ _ _ _ _ => p_rcs (nl := 2) (by decide +kernel : p_at 147 29 = some (.invokestatic 66)) (by decide +kernel : p_inv (p_own 147) 66 = some (1, 98, 1)) (by decide +kernel) rfl rfl (Nat.le_of_ble_eq_true rfl) (Nat.le_of_ble_eq_true rfl) (Nat.le_of_ble_eq_true rfl) rfl,
  fun _ _ _ _ _ _ _ _ => p_r (by decide +kernel : p_at 147 32 = some (.iload_n 3)) rfl,
  fun _ _ _ _ _ _ _ _ _ => p_r (by decide +kernel : p_at 147 33 = some (.lshr)) rfl,
  fun _ _ _ _ _ _ _ _ => p_r (by decide +kernel : p_at 147 34 = some (.lconst 0)) rfl,
  fun _ _ _ _ _ _ _ _ _ => p_r (by decide +kernel : p_at 147 35 = some (.lcmp)) rfl,
  fun _ _ _ _ _ _ _ _ => p_rb1 (c := fun x => decide (x ≤ 0)) (off := 18) (by decide +kernel : p_at 147 36 = some (.ifCond .le 18)) (by decide +kernel) rfl rfl rfl,
  fun _ _ _ _ _ _ _ => p_r (by decide +kernel : p_at 147 39 = some (.aload_n 0)) rfl,
  fun _ _ _ _ _ _ _ => p_r (by decide +kernel : p_at 147 40 = some (.iload 5)) rfl,
  fun _ _ _ _ _ _ _ _ => p_r (by decide +kernel : p_at 147 42 = some (.iload_n 1)) rfl,
  fun _ _ _ _ _ _ _ _ _ => p_r (by decide +kernel : p_at 147 43 = some (.iload_n 2)) rfl,
  fun _ _ _ _ _ _ _ _ _ _ => p_rcv (nl := 5) (by decide +kernel : p_at 147 44 = some (.invokevirtual 189)) (by decide +kernel : p_inv (p_own 147) 189 = some (1, 146, 4)) (by decide +kernel) (rfl : p_ob 24 = some (.inr (5, [some 25, some 26, none, none, none, some 27, some 28, some 29, some 30, some 31, some 32, some 33, some 34, some 35, some 36, some 37, some 38, some 39, none, none, some 40]))) rfl rfl (Nat.le_of_ble_eq_true rfl) (Nat.le_of_ble_eq_true rfl) (Nat.le_of_ble_eq_true rfl) rfl,
  fun _ _ _ _ _ _ _ _ => p_rb1 (c := fun x => decide (x = 0)) (off := 7) (by decide +kernel : p_at 147 47 = some (.ifCond .eq 7)) (by decide +kernel) rfl rfl rfl,
  fun _ _ _ _ _ _ _ => p_r (by decide +kernel : p_at 147 50 = some (.iconst 1)) rfl,
  fun _ _ _ _ _ _ _ _ => p_rgo (by decide +kernel : p_at 147 51 = some (.goto 4)) (by decide +kernel),
  fun _ _ _ _ _ _ _ => p_r (by decide +kernel : p_at 147 54 = some (.iconst 0)) rfl,
  fun _ _ _ _ _ _ _ _ => p_r (by decide +kernel : p_at 147 55 = some (.istore 4)) rfl,
  fun _ _ _ _ _ _ _ => p_r (by decide +kernel : p_at 147 57 = some (.iinc 5 1)) rfl,
  fun _ _ _ _ _ _ _ => p_rgo (by decide +kernel : p_at 147 60 = some (.goto (-52))) (by decide +kernel),
  fun _ _ _ _ _ _ _ => p_r (by decide +kernel : p_at 147 63 = some (.iload 4)) rfl,
  fun _ _ _ _ _ _ _ _ hp => p_rzret (by decide +kernel : p_at 147 65 = some (.ireturn)) (by decide +kernel) hp⟩
theorem H147_8 :
  (∀ (scr : pX) (w : pW) (x1 : Int32) (x2 : Int32) (x3 : Int32) (x4 : Int32) (x5 : Int32), p_ev scr 147 8 [.ref 24, .int x1, .int x2, .int x3, .int x4, .int x5] [] w = p_ev scr 147 10 [.ref 24, .int x1, .int x2, .int x3, .int x4, .int x5] [.int x5] w) :=
  fun _ _ _ _ _ _ _ => p_r (by decide +kernel : p_at 147 8 = some (.iload 5)) rfl
-- 148: firstPass
theorem M148 :
  (∀ (scr : pX) (w : pW) (x1 : Int32) (x2 : Int32), p_ev scr 148 0 [.ref 24, .int x1, .int x2, p_U, p_U, p_U, p_U, p_U] [] w = p_ev scr 148 1 [.ref 24, .int x1, .int x2, p_U, p_U, p_U, p_U, p_U] [.int (nI 0)] w) ∧
  (∀ (scr : pX) (w : pW) (x1 : Int32) (x2 : Int32) (s0 : Int32), p_ev scr 148 1 [.ref 24, .int x1, .int x2, p_U, p_U, p_U, p_U, p_U] [.int s0] w = p_ev scr 148 2 [.ref 24, .int x1, .int x2, .int s0, p_U, p_U, p_U, p_U] [] w) ∧
  (∀ (scr : pX) (w : pW) (x1 : Int32) (x2 : Int32) (x3 : Int32) (s0 : Int32), p_ev scr 148 3 [.ref 24, .int x1, .int x2, .int x3, p_U, p_U, p_U, p_U] [.int s0] w = p_ev scr 148 4 [.ref 24, .int x1, .int x2, .int x3, p_U, p_U, p_U, p_U] [.ref 24, .int s0] w) ∧
  (∀ (scr : pX) (w : pW) (x1 : Int32) (x2 : Int32) (x3 : Int32) (s1 : Int32), p_ev scr 148 4 [.ref 24, .int x1, .int x2, .int x3, p_U, p_U, p_U, p_U] [.ref 24, .int s1] w = p_ev scr 148 7 [.ref 24, .int x1, .int x2, .int x3, p_U, p_U, p_U, p_U] [.int (w.1 24 2), .int s1] w) ∧
  (∀ (scr : pX) (w : pW) (x1 : Int32) (x2 : Int32) (x3 : Int32) (s0 : Int32) (s1 : Int32), p_ev scr 148 7 [.ref 24, .int x1, .int x2, .int x3, p_U, p_U, p_U, p_U] [.int s0, .int s1] w = if s0 ≤ s1 then p_ev scr 148 23 [.ref 24, .int x1, .int x2, .int x3, p_U, p_U, p_U, p_U] [] w else p_ev scr 148 10 [.ref 24, .int x1, .int x2, .int x3, p_U, p_U, p_U, p_U] [] w) ∧
  (∀ (scr : pX) (w : pW) (x1 : Int32) (x2 : Int32) (x3 : Int32), p_ev scr 148 10 [.ref 24, .int x1, .int x2, .int x3, p_U, p_U, p_U, p_U] [] w = p_ev scr 148 11 [.ref 24, .int x1, .int x2, .int x3, p_U, p_U, p_U, p_U] [.ref 24] w) ∧
  (∀ (scr : pX) (w : pW) (x1 : Int32) (x2 : Int32) (x3 : Int32), p_ev scr 148 11 [.ref 24, .int x1, .int x2, .int x3, p_U, p_U, p_U, p_U] [.ref 24] w = p_ev scr 148 14 [.ref 24, .int x1, .int x2, .int x3, p_U, p_U, p_U, p_U] [.ref 33] w) ∧
  (∀ (scr : pX) (w : pW) (x1 : Int32) (x2 : Int32) (x3 : Int32), p_ev scr 148 14 [.ref 24, .int x1, .int x2, .int x3, p_U, p_U, p_U, p_U] [.ref 33] w = p_ev scr 148 15 [.ref 24, .int x1, .int x2, .int x3, p_U, p_U, p_U, p_U] [.int x3, .ref 33] w) ∧
  (∀ (scr : pX) (w : pW) (x1 : Int32) (x2 : Int32) (x3 : Int32) (s0 : Int32), p_ev scr 148 15 [.ref 24, .int x1, .int x2, .int x3, p_U, p_U, p_U, p_U] [.int s0, .ref 33] w = p_ev scr 148 16 [.ref 24, .int x1, .int x2, .int x3, p_U, p_U, p_U, p_U] [.int (nI 0), .int s0, .ref 33] w) ∧
  (∀ (scr : pX) (w : pW) (x1 : Int32) (x2 : Int32) (x3 : Int32) (s0 : Int32) (s1 : Int32), p_out s1 32 = false → p_ev scr 148 16 [.ref 24, .int x1, .int x2, .int x3, p_U, p_U, p_U, p_U] [.int s0, .int s1, .ref 33] w = p_ev scr 148 17 [.ref 24, .int x1, .int x2, .int x3, p_U, p_U, p_U, p_U] [] (w.1, w.2.1, p_u w.2.2 33 s1.toNatClampNeg s0)) ∧
  (∀ (scr : pX) (w : pW) (x1 : Int32) (x2 : Int32) (x3 : Int32), p_ev scr 148 17 [.ref 24, .int x1, .int x2, .int x3, p_U, p_U, p_U, p_U] [] w = p_ev scr 148 20 [.ref 24, .int x1, .int x2, .int (x3 + (nI 1)), p_U, p_U, p_U, p_U] [] w) ∧
  (∀ (scr : pX) (w : pW) (x1 : Int32) (x2 : Int32) (x3 : Int32), p_ev scr 148 20 [.ref 24, .int x1, .int x2, .int x3, p_U, p_U, p_U, p_U] [] w = p_ev scr 148 2 [.ref 24, .int x1, .int x2, .int x3, p_U, p_U, p_U, p_U] [] w) ∧
  (∀ (scr : pX) (w : pW) (x1 : Int32) (x2 : Int32) (x3 : Int32), p_ev scr 148 23 [.ref 24, .int x1, .int x2, .int x3, p_U, p_U, p_U, p_U] [] w = p_ev scr 148 24 [.ref 24, .int x1, .int x2, .int x3, p_U, p_U, p_U, p_U] [.int (nI 0)] w) ∧
  (∀ (scr : pX) (w : pW) (x1 : Int32) (x2 : Int32) (x3 : Int32) (s0 : Int32), p_ev scr 148 24 [.ref 24, .int x1, .int x2, .int x3, p_U, p_U, p_U, p_U] [.int s0] w = p_ev scr 148 25 [.ref 24, .int x1, .int x2, .int s0, p_U, p_U, p_U, p_U] [] w) ∧
  (∀ (scr : pX) (w : pW) (x1 : Int32) (x2 : Int32) (x3 : Int32) (z4 : Value) (z6 : Value) (z7 : Value) (s0 : Int32), p_ev scr 148 26 [.ref 24, .int x1, .int x2, .int x3, z4, p_U, z6, z7] [.int s0] w = p_ev scr 148 27 [.ref 24, .int x1, .int x2, .int x3, z4, p_U, z6, z7] [.ref 24, .int s0] w) ∧
  (∀ (scr : pX) (w : pW) (x1 : Int32) (x2 : Int32) (x3 : Int32) (z4 : Value) (z6 : Value) (z7 : Value) (s1 : Int32), p_ev scr 148 27 [.ref 24, .int x1, .int x2, .int x3, z4, p_U, z6, z7] [.ref 24, .int s1] w = p_ev scr 148 30 [.ref 24, .int x1, .int x2, .int x3, z4, p_U, z6, z7] [.int (w.1 24 2), .int s1] w) ∧
  (∀ (scr : pX) (w : pW) (x1 : Int32) (x2 : Int32) (x3 : Int32) (z4 : Value) (z6 : Value) (z7 : Value) (s0 : Int32) (s1 : Int32), p_ev scr 148 30 [.ref 24, .int x1, .int x2, .int x3, z4, p_U, z6, z7] [.int s0, .int s1] w = if s0 ≤ s1 then p_ev scr 148 216 [.ref 24, .int x1, .int x2, .int x3, z4, p_U, z6, z7] [] w else p_ev scr 148 33 [.ref 24, .int x1, .int x2, .int x3, z4, p_U, z6, z7] [] w) ∧
  (∀ (scr : pX) (w : pW) (x1 : Int32) (x2 : Int32) (x3 : Int32) (z4 : Value) (z6 : Value) (z7 : Value), p_ev scr 148 33 [.ref 24, .int x1, .int x2, .int x3, z4, p_U, z6, z7] [] w = p_ev scr 148 34 [.ref 24, .int x1, .int x2, .int x3, z4, p_U, z6, z7] [.ref 24] w) ∧
  (∀ (scr : pX) (w : pW) (x1 : Int32) (x2 : Int32) (x3 : Int32) (z4 : Value) (z6 : Value) (z7 : Value), p_ev scr 148 34 [.ref 24, .int x1, .int x2, .int x3, z4, p_U, z6, z7] [.ref 24] w = p_ev scr 148 37 [.ref 24, .int x1, .int x2, .int x3, z4, p_U, z6, z7] [.ref 32] w) ∧
  (∀ (scr : pX) (w : pW) (x1 : Int32) (x2 : Int32) (x3 : Int32) (z4 : Value) (z6 : Value) (z7 : Value), p_ev scr 148 37 [.ref 24, .int x1, .int x2, .int x3, z4, p_U, z6, z7] [.ref 32] w = p_ev scr 148 38 [.ref 24, .int x1, .int x2, .int x3, z4, p_U, z6, z7] [.int x3, .ref 32] w) ∧
  (∀ (scr : pX) (w : pW) (x1 : Int32) (x2 : Int32) (x3 : Int32) (z4 : Value) (z6 : Value) (z7 : Value) (s0 : Int32), p_out s0 32 = false → p_ev scr 148 38 [.ref 24, .int x1, .int x2, .int x3, z4, p_U, z6, z7] [.int s0, .ref 32] w = p_ev scr 148 39 [.ref 24, .int x1, .int x2, .int x3, z4, p_U, z6, z7] [.long (w.2.1 32 s0.toNatClampNeg)] w) ∧
  (∀ (scr : pX) (w : pW) (x1 : Int32) (x2 : Int32) (x3 : Int32) (z4 : Value) (z6 : Value) (z7 : Value) (t0 : Int64), p_ev scr 148 39 [.ref 24, .int x1, .int x2, .int x3, z4, p_U, z6, z7] [.long t0] w = p_bnd scr 148 39 42 [.ref 24, .int x1, .int x2, .int x3, z4, p_U, z6, z7] [] (p_ev none 98 0 [.long t0, p_U] [] w)) ∧
  (∀ (scr : pX) (w : pW) (x1 : Int32) (x2 : Int32) (x3 : Int32) (z4 : Value) (z6 : Value) (z7 : Value) (t0 : Int64), p_ev scr 148 42 [.ref 24, .int x1, .int x2, .int x3, z4, p_U, z6, z7] [.long t0] w = p_ev scr 148 44 [.ref 24, .int x1, .int x2, .int x3, .long t0, p_U, z6, z7] [] w) ∧
  (∀ (scr : pX) (w : pW) (x1 : Int32) (x2 : Int32) (x3 : Int32) (y4 : Int64) (z6 : Value) (z7 : Value), p_ev scr 148 44 [.ref 24, .int x1, .int x2, .int x3, .long y4, p_U, z6, z7] [] w = p_ev scr 148 46 [.ref 24, .int x1, .int x2, .int x3, .long y4, p_U, z6, z7] [.long y4] w) ∧
  (∀ (scr : pX) (w : pW) (x1 : Int32) (x2 : Int32) (x3 : Int32) (y4 : Int64) (z6 : Value) (z7 : Value) (t0 : Int64), p_ev scr 148 46 [.ref 24, .int x1, .int x2, .int x3, .long y4, p_U, z6, z7] [.long t0] w = p_ev scr 148 47 [.ref 24, .int x1, .int x2, .int x3, .long y4, p_U, z6, z7] [.int x1, .long t0] w) ∧
  (∀ (scr : pX) (w : pW) (x1 : Int32) (x2 : Int32) (x3 : Int32) (y4 : Int64) (z6 : Value) (z7 : Value) (s0 : Int32) (t1 : Int64), p_ev scr 148 47 [.ref 24, .int x1, .int x2, .int x3, .long y4, p_U, z6, z7] [.int s0, .long t1] w = p_ev scr 148 48 [.ref 24, .int x1, .int x2, .int x3, .long y4, p_U, z6, z7] [.long (t1 >>> (s0.toInt64 &&& 63))] w) ∧
  (∀ (scr : pX) (w : pW) (x1 : Int32) (x2 : Int32) (x3 : Int32) (y4 : Int64) (z6 : Value) (z7 : Value) (t0 : Int64), p_ev scr 148 48 [.ref 24, .int x1, .int x2, .int x3, .long y4, p_U, z6, z7] [.long t0] w = p_ev scr 148 49 [.ref 24, .int x1, .int x2, .int x3, .long y4, p_U, z6, z7] [.long (lN 1), .long t0] w) ∧
  (∀ (scr : pX) (w : pW) (x1 : Int32) (x2 : Int32) (x3 : Int32) (y4 : Int64) (z6 : Value) (z7 : Value) (t0 : Int64) (t1 : Int64), p_ev scr 148 49 [.ref 24, .int x1, .int x2, .int x3, .long y4, p_U, z6, z7] [.long t0, .long t1] w = p_ev scr 148 50 [.ref 24, .int x1, .int x2, .int x3, .long y4, p_U, z6, z7] [.int (lg_cmp t1 t0)] w) ∧
  (∀ (scr : pX) (w : pW) (x1 : Int32) (x2 : Int32) (x3 : Int32) (y4 : Int64) (z6 : Value) (z7 : Value) (s0 : Int32), p_ev scr 148 50 [.ref 24, .int x1, .int x2, .int x3, .long y4, p_U, z6, z7] [.int s0] w = if nI 0 < s0 then p_ev scr 148 210 [.ref 24, .int x1, .int x2, .int x3, .long y4, p_U, z6, z7] [] w else p_ev scr 148 53 [.ref 24, .int x1, .int x2, .int x3, .long y4, p_U, z6, z7] [] w) ∧
  (∀ (scr : pX) (w : pW) (x1 : Int32) (x2 : Int32) (x3 : Int32) (y4 : Int64) (z6 : Value) (z7 : Value), p_ev scr 148 53 [.ref 24, .int x1, .int x2, .int x3, .long y4, p_U, z6, z7] [] w = p_ev scr 148 54 [.ref 24, .int x1, .int x2, .int x3, .long y4, p_U, z6, z7] [.ref 24] w) ∧
  (∀ (scr : pX) (w : pW) (x1 : Int32) (x2 : Int32) (x3 : Int32) (y4 : Int64) (z6 : Value) (z7 : Value), p_ev scr 148 54 [.ref 24, .int x1, .int x2, .int x3, .long y4, p_U, z6, z7] [.ref 24] w = p_ev scr 148 57 [.ref 24, .int x1, .int x2, .int x3, .long y4, p_U, z6, z7] [.ref 33] w) ∧
  (∀ (scr : pX) (w : pW) (x1 : Int32) (x2 : Int32) (x3 : Int32) (y4 : Int64) (z6 : Value) (z7 : Value), p_ev scr 148 57 [.ref 24, .int x1, .int x2, .int x3, .long y4, p_U, z6, z7] [.ref 33] w = p_ev scr 148 58 [.ref 24, .int x1, .int x2, .int x3, .long y4, p_U, z6, z7] [.int x3, .ref 33] w) ∧
  (∀ (scr : pX) (w : pW) (x1 : Int32) (x2 : Int32) (x3 : Int32) (y4 : Int64) (z6 : Value) (z7 : Value) (s0 : Int32), p_out s0 32 = false → p_ev scr 148 58 [.ref 24, .int x1, .int x2, .int x3, .long y4, p_U, z6, z7] [.int s0, .ref 33] w = p_ev scr 148 59 [.ref 24, .int x1, .int x2, .int x3, .long y4, p_U, z6, z7] [.int (w.2.2 33 s0.toNatClampNeg)] w) ∧
  (∀ (scr : pX) (w : pW) (x1 : Int32) (x2 : Int32) (x3 : Int32) (y4 : Int64) (z6 : Value) (z7 : Value) (s0 : Int32), p_ev scr 148 59 [.ref 24, .int x1, .int x2, .int x3, .long y4, p_U, z6, z7] [.int s0] w = p_ev scr 148 60 [.ref 24, .int x1, .int x2, .int x3, .long y4, p_U, z6, z7] [.int (nI 1), .int s0] w) ∧
  (∀ (scr : pX) (w : pW) (x1 : Int32) (x2 : Int32) (x3 : Int32) (y4 : Int64) (z6 : Value) (z7 : Value) (s0 : Int32) (s1 : Int32), p_ev scr 148 60 [.ref 24, .int x1, .int x2, .int x3, .long y4, p_U, z6, z7] [.int s0, .int s1] w = if ¬ s1 = s0 then p_ev scr 148 66 [.ref 24, .int x1, .int x2, .int x3, .long y4, p_U, z6, z7] [] w else p_ev scr 148 63 [.ref 24, .int x1, .int x2, .int x3, .long y4, p_U, z6, z7] [] w) ∧
  (∀ (scr : pX) (w : pW) (x1 : Int32) (x2 : Int32) (x3 : Int32) (y4 : Int64) (z6 : Value) (z7 : Value), p_ev scr 148 63 [.ref 24, .int x1, .int x2, .int x3, .long y4, p_U, z6, z7] [] w = p_ev scr 148 210 [.ref 24, .int x1, .int x2, .int x3, .long y4, p_U, z6, z7] [] w) ∧
  (∀ (scr : pX) (w : pW) (x1 : Int32) (x2 : Int32) (x3 : Int32) (y4 : Int64) (z6 : Value) (z7 : Value), p_ev scr 148 66 [.ref 24, .int x1, .int x2, .int x3, .long y4, p_U, z6, z7] [] w = p_ev scr 148 68 [.ref 24, .int x1, .int x2, .int x3, .long y4, p_U, z6, z7] [.long y4] w) ∧
  (∀ (scr : pX) (w : pW) (x1 : Int32) (x2 : Int32) (x3 : Int32) (y4 : Int64) (z6 : Value) (z7 : Value) (t0 : Int64), p_ev scr 148 68 [.ref 24, .int x1, .int x2, .int x3, .long y4, p_U, z6, z7] [.long t0] w = p_ev scr 148 69 [.ref 24, .int x1, .int x2, .int x3, .long y4, p_U, z6, z7] [.int x1, .long t0] w) ∧
  (∀ (scr : pX) (w : pW) (x1 : Int32) (x2 : Int32) (x3 : Int32) (y4 : Int64) (z6 : Value) (z7 : Value) (s0 : Int32) (t1 : Int64), p_ev scr 148 69 [.ref 24, .int x1, .int x2, .int x3, .long y4, p_U, z6, z7] [.int s0, .long t1] w = p_ev scr 148 70 [.ref 24, .int x1, .int x2, .int x3, .long y4, p_U, z6, z7] [.long (t1 >>> (s0.toInt64 &&& 63))] w) ∧
  (∀ (scr : pX) (w : pW) (x1 : Int32) (x2 : Int32) (x3 : Int32) (y4 : Int64) (z6 : Value) (z7 : Value) (t0 : Int64), p_ev scr 148 70 [.ref 24, .int x1, .int x2, .int x3, .long y4, p_U, z6, z7] [.long t0] w = p_ev scr 148 71 [.ref 24, .int x1, .int x2, .int x3, .long y4, p_U, z6, z7] [.long (lN 1), .long t0] w) ∧
  (∀ (scr : pX) (w : pW) (x1 : Int32) (x2 : Int32) (x3 : Int32) (y4 : Int64) (z6 : Value) (z7 : Value) (t0 : Int64) (t1 : Int64), p_ev scr 148 71 [.ref 24, .int x1, .int x2, .int x3, .long y4, p_U, z6, z7] [.long t0, .long t1] w = p_ev scr 148 72 [.ref 24, .int x1, .int x2, .int x3, .long y4, p_U, z6, z7] [.int (lg_cmp t1 t0)] w) ∧
  (∀ (scr : pX) (w : pW) (x1 : Int32) (x2 : Int32) (x3 : Int32) (y4 : Int64) (z6 : Value) (z7 : Value) (s0 : Int32), p_ev scr 148 72 [.ref 24, .int x1, .int x2, .int x3, .long y4, p_U, z6, z7] [.int s0] w = if ¬ s0 = nI 0 then p_ev scr 148 112 [.ref 24, .int x1, .int x2, .int x3, .long y4, p_U, z6, z7] [] w else p_ev scr 148 75 [.ref 24, .int x1, .int x2, .int x3, .long y4, p_U, z6, z7] [] w) ∧
  (∀ (scr : pX) (w : pW) (x1 : Int32) (x2 : Int32) (x3 : Int32) (y4 : Int64) (z6 : Value) (z7 : Value), p_ev scr 148 75 [.ref 24, .int x1, .int x2, .int x3, .long y4, p_U, z6, z7] [] w = p_ev scr 148 76 [.ref 24, .int x1, .int x2, .int x3, .long y4, p_U, z6, z7] [.ref 24] w) ∧
  (∀ (scr : pX) (w : pW) (x1 : Int32) (x2 : Int32) (x3 : Int32) (y4 : Int64) (z6 : Value) (z7 : Value), p_ev scr 148 76 [.ref 24, .int x1, .int x2, .int x3, .long y4, p_U, z6, z7] [.ref 24] w = p_ev scr 148 77 [.ref 24, .int x1, .int x2, .int x3, .long y4, p_U, z6, z7] [.int (nI 1), .ref 24] w) ∧
  (∀ (scr : pX) (w : pW) (x1 : Int32) (x2 : Int32) (x3 : Int32) (y4 : Int64) (z6 : Value) (z7 : Value) (s0 : Int32), p_ev scr 148 77 [.ref 24, .int x1, .int x2, .int x3, .long y4, p_U, z6, z7] [.int s0, .ref 24] w = p_ev scr 148 78 [.ref 24, .int x1, .int x2, .int x3, .long y4, p_U, z6, z7] [.int x3, .int s0, .ref 24] w) ∧
  (∀ (scr : pX) (w : pW) (x1 : Int32) (x2 : Int32) (x3 : Int32) (y4 : Int64) (z6 : Value) (z7 : Value) (s0 : Int32) (s1 : Int32), p_ev scr 148 78 [.ref 24, .int x1, .int x2, .int x3, .long y4, p_U, z6, z7] [.int s0, .int s1, .ref 24] w = p_ev scr 148 80 [.ref 24, .int x1, .int x2, .int x3, .long y4, p_U, z6, z7] [.int (nI 64), .int s0, .int s1, .ref 24] w) ∧
  (∀ (scr : pX) (w : pW) (x1 : Int32) (x2 : Int32) (x3 : Int32) (y4 : Int64) (z6 : Value) (z7 : Value) (s0 : Int32) (s1 : Int32) (s2 : Int32), p_ev scr 148 80 [.ref 24, .int x1, .int x2, .int x3, .long y4, p_U, z6, z7] [.int s0, .int s1, .int s2, .ref 24] w = p_ev scr 148 81 [.ref 24, .int x1, .int x2, .int x3, .long y4, p_U, z6, z7] [.int x1, .int s0, .int s1, .int s2, .ref 24] w) ∧
  (∀ (scr : pX) (w : pW) (x1 : Int32) (x2 : Int32) (x3 : Int32) (y4 : Int64) (z6 : Value) (z7 : Value) (s0 : Int32) (s1 : Int32) (s2 : Int32) (s3 : Int32), p_ev scr 148 81 [.ref 24, .int x1, .int x2, .int x3, .long y4, p_U, z6, z7] [.int s0, .int s1, .int s2, .int s3, .ref 24] w = p_ev scr 148 82 [.ref 24, .int x1, .int x2, .int x3, .long y4, p_U, z6, z7] [.int (s1 + s0), .int s2, .int s3, .ref 24] w) ∧
  (∀ (scr : pX) (w : pW) (x1 : Int32) (x2 : Int32) (x3 : Int32) (y4 : Int64) (z6 : Value) (z7 : Value) (s0 : Int32) (s1 : Int32) (s2 : Int32), p_ev scr 148 82 [.ref 24, .int x1, .int x2, .int x3, .long y4, p_U, z6, z7] [.int s0, .int s1, .int s2, .ref 24] w = p_bnd scr 148 82 85 [.ref 24, .int x1, .int x2, .int x3, .long y4, p_U, z6, z7] [] (p_ev none 144 0 [.ref 24, .int s2, .int s1, .int s0] [] w)) ∧
  (∀ (scr : pX) (w : pW) (x1 : Int32) (x2 : Int32) (x3 : Int32) (y4 : Int64) (z6 : Value) (z7 : Value), p_ev scr 148 85 [.ref 24, .int x1, .int x2, .int x3, .long y4, p_U, z6, z7] [] w = p_ev scr 148 86 [.ref 24, .int x1, .int x2, .int x3, .long y4, p_U, z6, z7] [.ref 24] w) ∧
  (∀ (scr : pX) (w : pW) (x1 : Int32) (x2 : Int32) (x3 : Int32) (y4 : Int64) (z6 : Value) (z7 : Value), p_ev scr 148 86 [.ref 24, .int x1, .int x2, .int x3, .long y4, p_U, z6, z7] [.ref 24] w = p_ev scr 148 87 [.ref 24, .int x1, .int x2, .int x3, .long y4, p_U, z6, z7] [.ref 24, .ref 24] w) ∧
  (∀ (scr : pX) (w : pW) (x1 : Int32) (x2 : Int32) (x3 : Int32) (y4 : Int64) (z6 : Value) (z7 : Value), p_ev scr 148 87 [.ref 24, .int x1, .int x2, .int x3, .long y4, p_U, z6, z7] [.ref 24, .ref 24] w = p_ev scr 148 90 [.ref 24, .int x1, .int x2, .int x3, .long y4, p_U, z6, z7] [.ref 32, .ref 24] w) ∧
  (∀ (scr : pX) (w : pW) (x1 : Int32) (x2 : Int32) (x3 : Int32) (y4 : Int64) (z6 : Value) (z7 : Value), p_ev scr 148 90 [.ref 24, .int x1, .int x2, .int x3, .long y4, p_U, z6, z7] [.ref 32, .ref 24] w = p_ev scr 148 91 [.ref 24, .int x1, .int x2, .int x3, .long y4, p_U, z6, z7] [.int x3, .ref 32, .ref 24] w) ∧
  (∀ (scr : pX) (w : pW) (x1 : Int32) (x2 : Int32) (x3 : Int32) (y4 : Int64) (z6 : Value) (z7 : Value) (s0 : Int32), p_out s0 32 = false → p_ev scr 148 91 [.ref 24, .int x1, .int x2, .int x3, .long y4, p_U, z6, z7] [.int s0, .ref 32, .ref 24] w = p_ev scr 148 92 [.ref 24, .int x1, .int x2, .int x3, .long y4, p_U, z6, z7] [.long (w.2.1 32 s0.toNatClampNeg), .ref 24] w) ∧
  (∀ (scr : pX) (w : pW) (x1 : Int32) (x2 : Int32) (x3 : Int32) (y4 : Int64) (z6 : Value) (z7 : Value) (t0 : Int64), p_ev scr 148 92 [.ref 24, .int x1, .int x2, .int x3, .long y4, p_U, z6, z7] [.long t0, .ref 24] w = p_ev scr 148 93 [.ref 24, .int x1, .int x2, .int x3, .long y4, p_U, z6, z7] [.long (lN 0), .long t0, .ref 24] w) ∧
  (∀ (scr : pX) (w : pW) (x1 : Int32) (x2 : Int32) (x3 : Int32) (y4 : Int64) (z6 : Value) (z7 : Value) (t0 : Int64) (t1 : Int64), p_ev scr 148 93 [.ref 24, .int x1, .int x2, .int x3, .long y4, p_U, z6, z7] [.long t0, .long t1, .ref 24] w = p_ev scr 148 94 [.ref 24, .int x1, .int x2, .int x3, .long y4, p_U, z6, z7] [.int (lg_cmp t1 t0), .ref 24] w) ∧
  (∀ (scr : pX) (w : pW) (x1 : Int32) (x2 : Int32) (x3 : Int32) (y4 : Int64) (z6 : Value) (z7 : Value) (s0 : Int32), p_ev scr 148 94 [.ref 24, .int x1, .int x2, .int x3, .long y4, p_U, z6, z7] [.int s0, .ref 24] w = if nI 0 ≤ s0 then p_ev scr 148 101 [.ref 24, .int x1, .int x2, .int x3, .long y4, p_U, z6, z7] [.ref 24] w else p_ev scr 148 97 [.ref 24, .int x1, .int x2, .int x3, .long y4, p_U, z6, z7] [.ref 24] w) ∧
  (∀ (scr : pX) (w : pW) (x1 : Int32) (x2 : Int32) (x3 : Int32) (y4 : Int64) (z6 : Value) (z7 : Value), p_ev scr 148 97 [.ref 24, .int x1, .int x2, .int x3, .long y4, p_U, z6, z7] [.ref 24] w = p_ev scr 148 98 [.ref 24, .int x1, .int x2, .int x3, .long y4, p_U, z6, z7] [.int (nI 1), .ref 24] w) ∧
  (∀ (scr : pX) (w : pW) (x1 : Int32) (x2 : Int32) (x3 : Int32) (y4 : Int64) (z6 : Value) (z7 : Value) (s0 : Int32), p_ev scr 148 98 [.ref 24, .int x1, .int x2, .int x3, .long y4, p_U, z6, z7] [.int s0, .ref 24] w = p_ev scr 148 102 [.ref 24, .int x1, .int x2, .int x3, .long y4, p_U, z6, z7] [.int s0, .ref 24] w) ∧
  (∀ (scr : pX) (w : pW) (x1 : Int32) (x2 : Int32) (x3 : Int32) (y4 : Int64) (z6 : Value) (z7 : Value), p_ev scr 148 101 [.ref 24, .int x1, .int x2, .int x3, .long y4, p_U, z6, z7] [.ref 24] w = p_ev scr 148 102 [.ref 24, .int x1, .int x2, .int x3, .long y4, p_U, z6, z7] [.int (nI 0), .ref 24] w) ∧
  (∀ (scr : pX) (w : pW) (x1 : Int32) (x2 : Int32) (x3 : Int32) (y4 : Int64) (z6 : Value) (z7 : Value) (s0 : Int32), p_ev scr 148 102 [.ref 24, .int x1, .int x2, .int x3, .long y4, p_U, z6, z7] [.int s0, .ref 24] w = p_ev scr 148 103 [.ref 24, .int x1, .int x2, .int x3, .long y4, p_U, z6, z7] [.int x3, .int s0, .ref 24] w) ∧
  (∀ (scr : pX) (w : pW) (x1 : Int32) (x2 : Int32) (x3 : Int32) (y4 : Int64) (z6 : Value) (z7 : Value) (s0 : Int32) (s1 : Int32), p_ev scr 148 103 [.ref 24, .int x1, .int x2, .int x3, .long y4, p_U, z6, z7] [.int s0, .int s1, .ref 24] w = p_ev scr 148 106 [.ref 24, .int x1, .int x2, .int x3, .long y4, p_U, z6, z7] [.int (nI 128), .int s0, .int s1, .ref 24] w) ∧
  (∀ (scr : pX) (w : pW) (x1 : Int32) (x2 : Int32) (x3 : Int32) (y4 : Int64) (z6 : Value) (z7 : Value) (s0 : Int32) (s1 : Int32) (s2 : Int32), p_ev scr 148 106 [.ref 24, .int x1, .int x2, .int x3, .long y4, p_U, z6, z7] [.int s0, .int s1, .int s2, .ref 24] w = p_bnd scr 148 106 109 [.ref 24, .int x1, .int x2, .int x3, .long y4, p_U, z6, z7] [] (p_ev none 144 0 [.ref 24, .int s2, .int s1, .int s0] [] w)) ∧
  (∀ (scr : pX) (w : pW) (x1 : Int32) (x2 : Int32) (x3 : Int32) (y4 : Int64) (z6 : Value) (z7 : Value), p_ev scr 148 109 [.ref 24, .int x1, .int x2, .int x3, .long y4, p_U, z6, z7] [] w = p_ev scr 148 210 [.ref 24, .int x1, .int x2, .int x3, .long y4, p_U, z6, z7] [] w) ∧
  (∀ (scr : pX) (w : pW) (x1 : Int32) (x2 : Int32) (x3 : Int32) (y4 : Int64) (z6 : Value) (z7 : Value), p_ev scr 148 112 [.ref 24, .int x1, .int x2, .int x3, .long y4, p_U, z6, z7] [] w = p_ev scr 148 113 [.ref 24, .int x1, .int x2, .int x3, .long y4, p_U, z6, z7] [.ref 24] w) ∧
  (∀ (scr : pX) (w : pW) (x1 : Int32) (x2 : Int32) (x3 : Int32) (y4 : Int64) (z6 : Value) (z7 : Value), p_ev scr 148 113 [.ref 24, .int x1, .int x2, .int x3, .long y4, p_U, z6, z7] [.ref 24] w = p_ev scr 148 114 [.ref 24, .int x1, .int x2, .int x3, .long y4, p_U, z6, z7] [.int (nI 0), .ref 24] w) ∧
  (∀ (scr : pX) (w : pW) (x1 : Int32) (x2 : Int32) (x3 : Int32) (y4 : Int64) (z6 : Value) (z7 : Value) (s0 : Int32), p_ev scr 148 114 [.ref 24, .int x1, .int x2, .int x3, .long y4, p_U, z6, z7] [.int s0, .ref 24] w = p_ev scr 148 115 [.ref 24, .int x1, .int x2, .int x3, .long y4, p_U, z6, z7] [.int x3, .int s0, .ref 24] w) ∧
  (∀ (scr : pX) (w : pW) (x1 : Int32) (x2 : Int32) (x3 : Int32) (y4 : Int64) (z6 : Value) (z7 : Value) (s0 : Int32) (s1 : Int32), p_ev scr 148 115 [.ref 24, .int x1, .int x2, .int x3, .long y4, p_U, z6, z7] [.int s0, .int s1, .ref 24] w = p_ev scr 148 116 [.ref 24, .int x1, .int x2, .int x3, .long y4, p_U, z6, z7] [.int (nI 0), .int s0, .int s1, .ref 24] w) ∧
  (∀ (scr : pX) (w : pW) (x1 : Int32) (x2 : Int32) (x3 : Int32) (y4 : Int64) (z6 : Value) (z7 : Value) (s0 : Int32) (s1 : Int32) (s2 : Int32), p_ev scr 148 116 [.ref 24, .int x1, .int x2, .int x3, .long y4, p_U, z6, z7] [.int s0, .int s1, .int s2, .ref 24] w = p_bnd scr 148 116 119 [.ref 24, .int x1, .int x2, .int x3, .long y4, p_U, z6, z7] [] (p_ev none 144 0 [.ref 24, .int s2, .int s1, .int s0] [] w)) ∧
  (∀ (scr : pX) (w : pW) (x1 : Int32) (x2 : Int32) (x3 : Int32) (y4 : Int64) (z6 : Value) (z7 : Value), p_ev scr 148 119 [.ref 24, .int x1, .int x2, .int x3, .long y4, p_U, z6, z7] [] w = p_ev scr 148 120 [.ref 24, .int x1, .int x2, .int x3, .long y4, p_U, z6, z7] [.ref 24] w) ∧
  (∀ (scr : pX) (w : pW) (x1 : Int32) (x2 : Int32) (x3 : Int32) (y4 : Int64) (z6 : Value) (z7 : Value), p_ev scr 148 120 [.ref 24, .int x1, .int x2, .int x3, .long y4, p_U, z6, z7] [.ref 24] w = p_ev scr 148 121 [.ref 24, .int x1, .int x2, .int x3, .long y4, p_U, z6, z7] [.int x3, .ref 24] w) ∧
  (∀ (scr : pX) (w : pW) (x1 : Int32) (x2 : Int32) (x3 : Int32) (y4 : Int64) (z6 : Value) (z7 : Value) (s0 : Int32), p_ev scr 148 121 [.ref 24, .int x1, .int x2, .int x3, .long y4, p_U, z6, z7] [.int s0, .ref 24] w = p_ev scr 148 122 [.ref 24, .int x1, .int x2, .int x3, .long y4, p_U, z6, z7] [.int x2, .int s0, .ref 24] w) ∧
  (∀ (scr : pX) (w : pW) (x1 : Int32) (x2 : Int32) (x3 : Int32) (y4 : Int64) (z6 : Value) (z7 : Value) (s0 : Int32) (s1 : Int32), p_ev scr 148 122 [.ref 24, .int x1, .int x2, .int x3, .long y4, p_U, z6, z7] [.int s0, .int s1, .ref 24] w = p_bnd scr 148 122 125 [.ref 24, .int x1, .int x2, .int x3, .long y4, p_U, z6, z7] [] (p_ev none 145 0 [.ref 24, .int s1, .int s0, p_U] [] w)) ∧
  (∀ (scr : pX) (w : pW) (x1 : Int32) (x2 : Int32) (x3 : Int32) (y4 : Int64) (z6 : Value) (z7 : Value) (s0 : Int32), p_ev scr 148 125 [.ref 24, .int x1, .int x2, .int x3, .long y4, p_U, z6, z7] [.int s0] w = if nI 0 ≤ s0 then p_ev scr 148 131 [.ref 24, .int x1, .int x2, .int x3, .long y4, p_U, z6, z7] [] w else p_ev scr 148 128 [.ref 24, .int x1, .int x2, .int x3, .long y4, p_U, z6, z7] [] w) ∧
  (∀ (scr : pX) (w : pW) (x1 : Int32) (x2 : Int32) (x3 : Int32) (y4 : Int64) (z6 : Value) (z7 : Value), p_ev scr 148 128 [.ref 24, .int x1, .int x2, .int x3, .long y4, p_U, z6, z7] [] w = p_ev scr 148 210 [.ref 24, .int x1, .int x2, .int x3, .long y4, p_U, z6, z7] [] w) ∧
  (∀ (scr : pX) (w : pW) (x1 : Int32) (x2 : Int32) (x3 : Int32) (y4 : Int64) (z6 : Value) (z7 : Value), p_ev scr 148 131 [.ref 24, .int x1, .int x2, .int x3, .long y4, p_U, z6, z7] [] w = p_ev scr 148 132 [.ref 24, .int x1, .int x2, .int x3, .long y4, p_U, z6, z7] [.ref 24] w) ∧
  (∀ (scr : pX) (w : pW) (x1 : Int32) (x2 : Int32) (x3 : Int32) (y4 : Int64) (z6 : Value) (z7 : Value), p_ev scr 148 132 [.ref 24, .int x1, .int x2, .int x3, .long y4, p_U, z6, z7] [.ref 24] w = p_ev scr 148 133 [.ref 24, .int x1, .int x2, .int x3, .long y4, p_U, z6, z7] [.int x3, .ref 24] w) ∧
  (∀ (scr : pX) (w : pW) (x1 : Int32) (x2 : Int32) (x3 : Int32) (y4 : Int64) (z6 : Value) (z7 : Value) (s0 : Int32), p_ev scr 148 133 [.ref 24, .int x1, .int x2, .int x3, .long y4, p_U, z6, z7] [.int s0, .ref 24] w = p_ev scr 148 134 [.ref 24, .int x1, .int x2, .int x3, .long y4, p_U, z6, z7] [.int x2, .int s0, .ref 24] w) ∧
  (∀ (scr : pX) (w : pW) (x1 : Int32) (x2 : Int32) (x3 : Int32) (y4 : Int64) (z6 : Value) (z7 : Value) (s0 : Int32) (s1 : Int32), p_ev scr 148 134 [.ref 24, .int x1, .int x2, .int x3, .long y4, p_U, z6, z7] [.int s0, .int s1, .ref 24] w = p_ev scr 148 135 [.ref 24, .int x1, .int x2, .int x3, .long y4, p_U, z6, z7] [.int x1, .int s0, .int s1, .ref 24] w) ∧
  (∀ (scr : pX) (w : pW) (x1 : Int32) (x2 : Int32) (x3 : Int32) (y4 : Int64) (z6 : Value) (z7 : Value) (s0 : Int32) (s1 : Int32) (s2 : Int32), p_ev scr 148 135 [.ref 24, .int x1, .int x2, .int x3, .long y4, p_U, z6, z7] [.int s0, .int s1, .int s2, .ref 24] w = p_bnd scr 148 135 138 [.ref 24, .int x1, .int x2, .int x3, .long y4, p_U, z6, z7] [] (p_ev none 147 0 [.ref 24, .int s2, .int s1, .int s0, p_U, p_U] [] w)) ∧
  (∀ (scr : pX) (w : pW) (x1 : Int32) (x2 : Int32) (x3 : Int32) (y4 : Int64) (z6 : Value) (z7 : Value) (s0 : Int32), p_ev scr 148 138 [.ref 24, .int x1, .int x2, .int x3, .long y4, p_U, z6, z7] [.int s0] w = p_ev scr 148 140 [.ref 24, .int x1, .int x2, .int x3, .long y4, p_U, .int s0, z7] [] w) ∧
  (∀ (scr : pX) (w : pW) (x1 : Int32) (x2 : Int32) (x3 : Int32) (y4 : Int64) (x6 : Int32) (z7 : Value), p_ev scr 148 140 [.ref 24, .int x1, .int x2, .int x3, .long y4, p_U, .int x6, z7] [] w = p_ev scr 148 141 [.ref 24, .int x1, .int x2, .int x3, .long y4, p_U, .int x6, z7] [.ref 24] w) ∧
  (∀ (scr : pX) (w : pW) (x1 : Int32) (x2 : Int32) (x3 : Int32) (y4 : Int64) (x6 : Int32) (z7 : Value), p_ev scr 148 141 [.ref 24, .int x1, .int x2, .int x3, .long y4, p_U, .int x6, z7] [.ref 24] w = p_ev scr 148 143 [.ref 24, .int x1, .int x2, .int x3, .long y4, p_U, .int x6, z7] [.int x6, .ref 24] w) ∧
  (∀ (scr : pX) (w : pW) (x1 : Int32) (x2 : Int32) (x3 : Int32) (y4 : Int64) (x6 : Int32) (z7 : Value) (s0 : Int32), p_ev scr 148 143 [.ref 24, .int x1, .int x2, .int x3, .long y4, p_U, .int x6, z7] [.int s0, .ref 24] w = if s0 = nI 0 then p_ev scr 148 150 [.ref 24, .int x1, .int x2, .int x3, .long y4, p_U, .int x6, z7] [.ref 24] w else p_ev scr 148 146 [.ref 24, .int x1, .int x2, .int x3, .long y4, p_U, .int x6, z7] [.ref 24] w) ∧
  (∀ (scr : pX) (w : pW) (x1 : Int32) (x2 : Int32) (x3 : Int32) (y4 : Int64) (x6 : Int32) (z7 : Value), p_ev scr 148 146 [.ref 24, .int x1, .int x2, .int x3, .long y4, p_U, .int x6, z7] [.ref 24] w = p_ev scr 148 147 [.ref 24, .int x1, .int x2, .int x3, .long y4, p_U, .int x6, z7] [.int (nI 1), .ref 24] w) ∧
  (∀ (scr : pX) (w : pW) (x1 : Int32) (x2 : Int32) (x3 : Int32) (y4 : Int64) (x6 : Int32) (z7 : Value) (s0 : Int32), p_ev scr 148 147 [.ref 24, .int x1, .int x2, .int x3, .long y4, p_U, .int x6, z7] [.int s0, .ref 24] w = p_ev scr 148 151 [.ref 24, .int x1, .int x2, .int x3, .long y4, p_U, .int x6, z7] [.int s0, .ref 24] w) ∧
  (∀ (scr : pX) (w : pW) (x1 : Int32) (x2 : Int32) (x3 : Int32) (y4 : Int64) (x6 : Int32) (z7 : Value), p_ev scr 148 150 [.ref 24, .int x1, .int x2, .int x3, .long y4, p_U, .int x6, z7] [.ref 24] w = p_ev scr 148 151 [.ref 24, .int x1, .int x2, .int x3, .long y4, p_U, .int x6, z7] [.int (nI 0), .ref 24] w) ∧
  (∀ (scr : pX) (w : pW) (x1 : Int32) (x2 : Int32) (x3 : Int32) (y4 : Int64) (x6 : Int32) (z7 : Value) (s0 : Int32), p_ev scr 148 151 [.ref 24, .int x1, .int x2, .int x3, .long y4, p_U, .int x6, z7] [.int s0, .ref 24] w = p_ev scr 148 152 [.ref 24, .int x1, .int x2, .int x3, .long y4, p_U, .int x6, z7] [.int x3, .int s0, .ref 24] w) ∧
  (∀ (scr : pX) (w : pW) (x1 : Int32) (x2 : Int32) (x3 : Int32) (y4 : Int64) (x6 : Int32) (z7 : Value) (s0 : Int32) (s1 : Int32), p_ev scr 148 152 [.ref 24, .int x1, .int x2, .int x3, .long y4, p_U, .int x6, z7] [.int s0, .int s1, .ref 24] w = p_ev scr 148 153 [.ref 24, .int x1, .int x2, .int x3, .long y4, p_U, .int x6, z7] [.int (nI 0), .int s0, .int s1, .ref 24] w) ∧
  (∀ (scr : pX) (w : pW) (x1 : Int32) (x2 : Int32) (x3 : Int32) (y4 : Int64) (x6 : Int32) (z7 : Value) (s0 : Int32) (s1 : Int32) (s2 : Int32), p_ev scr 148 153 [.ref 24, .int x1, .int x2, .int x3, .long y4, p_U, .int x6, z7] [.int s0, .int s1, .int s2, .ref 24] w = p_bnd scr 148 153 156 [.ref 24, .int x1, .int x2, .int x3, .long y4, p_U, .int x6, z7] [] (p_ev none 144 0 [.ref 24, .int s2, .int s1, .int s0] [] w)) ∧
  (∀ (scr : pX) (w : pW) (x1 : Int32) (x2 : Int32) (x3 : Int32) (y4 : Int64) (x6 : Int32) (z7 : Value), p_ev scr 148 156 [.ref 24, .int x1, .int x2, .int x3, .long y4, p_U, .int x6, z7] [] w = p_ev scr 148 157 [.ref 24, .int x1, .int x2, .int x3, .long y4, p_U, .int x6, z7] [.int x3] w) ∧
  (∀ (scr : pX) (w : pW) (x1 : Int32) (x2 : Int32) (x3 : Int32) (y4 : Int64) (x6 : Int32) (z7 : Value) (s0 : Int32), p_ev scr 148 157 [.ref 24, .int x1, .int x2, .int x3, .long y4, p_U, .int x6, z7] [.int s0] w = p_ev scr 148 158 [.ref 24, .int x1, .int x2, .int x3, .long y4, p_U, .int x6, z7] [.int (nI 1), .int s0] w) ∧
  (∀ (scr : pX) (w : pW) (x1 : Int32) (x2 : Int32) (x3 : Int32) (y4 : Int64) (x6 : Int32) (z7 : Value) (s0 : Int32) (s1 : Int32), p_ev scr 148 158 [.ref 24, .int x1, .int x2, .int x3, .long y4, p_U, .int x6, z7] [.int s0, .int s1] w = p_ev scr 148 159 [.ref 24, .int x1, .int x2, .int x3, .long y4, p_U, .int x6, z7] [.int (s1 + s0)] w) ∧
  (∀ (scr : pX) (w : pW) (x1 : Int32) (x2 : Int32) (x3 : Int32) (y4 : Int64) (x6 : Int32) (z7 : Value) (s0 : Int32), p_ev scr 148 159 [.ref 24, .int x1, .int x2, .int x3, .long y4, p_U, .int x6, z7] [.int s0] w = p_ev scr 148 161 [.ref 24, .int x1, .int x2, .int x3, .long y4, p_U, .int x6, .int s0] [] w) ∧
  (∀ (scr : pX) (w : pW) (x1 : Int32) (x2 : Int32) (x3 : Int32) (y4 : Int64) (x6 : Int32) (x7 : Int32) (s0 : Int32), p_ev scr 148 163 [.ref 24, .int x1, .int x2, .int x3, .long y4, p_U, .int x6, .int x7] [.int s0] w = p_ev scr 148 164 [.ref 24, .int x1, .int x2, .int x3, .long y4, p_U, .int x6, .int x7] [.ref 24, .int s0] w) ∧
  (∀ (scr : pX) (w : pW) (x1 : Int32) (x2 : Int32) (x3 : Int32) (y4 : Int64) (x6 : Int32) (x7 : Int32) (s1 : Int32), p_ev scr 148 164 [.ref 24, .int x1, .int x2, .int x3, .long y4, p_U, .int x6, .int x7] [.ref 24, .int s1] w = p_ev scr 148 167 [.ref 24, .int x1, .int x2, .int x3, .long y4, p_U, .int x6, .int x7] [.int (w.1 24 2), .int s1] w) ∧
  (∀ (scr : pX) (w : pW) (x1 : Int32) (x2 : Int32) (x3 : Int32) (y4 : Int64) (x6 : Int32) (x7 : Int32) (s0 : Int32) (s1 : Int32), p_ev scr 148 167 [.ref 24, .int x1, .int x2, .int x3, .long y4, p_U, .int x6, .int x7] [.int s0, .int s1] w = if s0 ≤ s1 then p_ev scr 148 210 [.ref 24, .int x1, .int x2, .int x3, .long y4, p_U, .int x6, .int x7] [] w else p_ev scr 148 170 [.ref 24, .int x1, .int x2, .int x3, .long y4, p_U, .int x6, .int x7] [] w) ∧
  (∀ (scr : pX) (w : pW) (x1 : Int32) (x2 : Int32) (x3 : Int32) (y4 : Int64) (x6 : Int32) (x7 : Int32), p_ev scr 148 170 [.ref 24, .int x1, .int x2, .int x3, .long y4, p_U, .int x6, .int x7] [] w = p_ev scr 148 172 [.ref 24, .int x1, .int x2, .int x3, .long y4, p_U, .int x6, .int x7] [.int x6] w) ∧
  (∀ (scr : pX) (w : pW) (x1 : Int32) (x2 : Int32) (x3 : Int32) (y4 : Int64) (x6 : Int32) (x7 : Int32) (s0 : Int32), p_ev scr 148 172 [.ref 24, .int x1, .int x2, .int x3, .long y4, p_U, .int x6, .int x7] [.int s0] w = if ¬ s0 = nI 0 then p_ev scr 148 210 [.ref 24, .int x1, .int x2, .int x3, .long y4, p_U, .int x6, .int x7] [] w else p_ev scr 148 175 [.ref 24, .int x1, .int x2, .int x3, .long y4, p_U, .int x6, .int x7] [] w) ∧
  (∀ (scr : pX) (w : pW) (x1 : Int32) (x2 : Int32) (x3 : Int32) (y4 : Int64) (x6 : Int32) (x7 : Int32), p_ev scr 148 175 [.ref 24, .int x1, .int x2, .int x3, .long y4, p_U, .int x6, .int x7] [] w = p_ev scr 148 176 [.ref 24, .int x1, .int x2, .int x3, .long y4, p_U, .int x6, .int x7] [.ref 24] w) ∧
  (∀ (scr : pX) (w : pW) (x1 : Int32) (x2 : Int32) (x3 : Int32) (y4 : Int64) (x6 : Int32) (x7 : Int32), p_ev scr 148 176 [.ref 24, .int x1, .int x2, .int x3, .long y4, p_U, .int x6, .int x7] [.ref 24] w = p_ev scr 148 179 [.ref 24, .int x1, .int x2, .int x3, .long y4, p_U, .int x6, .int x7] [.ref 33] w) ∧
  (∀ (scr : pX) (w : pW) (x1 : Int32) (x2 : Int32) (x3 : Int32) (y4 : Int64) (x6 : Int32) (x7 : Int32), p_ev scr 148 179 [.ref 24, .int x1, .int x2, .int x3, .long y4, p_U, .int x6, .int x7] [.ref 33] w = p_ev scr 148 181 [.ref 24, .int x1, .int x2, .int x3, .long y4, p_U, .int x6, .int x7] [.int x7, .ref 33] w) ∧
  (∀ (scr : pX) (w : pW) (x1 : Int32) (x2 : Int32) (x3 : Int32) (y4 : Int64) (x6 : Int32) (x7 : Int32) (s0 : Int32), p_ev scr 148 181 [.ref 24, .int x1, .int x2, .int x3, .long y4, p_U, .int x6, .int x7] [.int s0, .ref 33] w = p_ev scr 148 182 [.ref 24, .int x1, .int x2, .int x3, .long y4, p_U, .int x6, .int x7] [.ref 24, .int s0, .ref 33] w) ∧
  (∀ (scr : pX) (w : pW) (x1 : Int32) (x2 : Int32) (x3 : Int32) (y4 : Int64) (x6 : Int32) (x7 : Int32) (s1 : Int32), p_ev scr 148 182 [.ref 24, .int x1, .int x2, .int x3, .long y4, p_U, .int x6, .int x7] [.ref 24, .int s1, .ref 33] w = p_ev scr 148 184 [.ref 24, .int x1, .int x2, .int x3, .long y4, p_U, .int x6, .int x7] [.int x7, .ref 24, .int s1, .ref 33] w) ∧
  (∀ (scr : pX) (w : pW) (x1 : Int32) (x2 : Int32) (x3 : Int32) (y4 : Int64) (x6 : Int32) (x7 : Int32) (s0 : Int32) (s2 : Int32), p_ev scr 148 184 [.ref 24, .int x1, .int x2, .int x3, .long y4, p_U, .int x6, .int x7] [.int s0, .ref 24, .int s2, .ref 33] w = p_ev scr 148 185 [.ref 24, .int x1, .int x2, .int x3, .long y4, p_U, .int x6, .int x7] [.int x3, .int s0, .ref 24, .int s2, .ref 33] w) ∧
  (∀ (scr : pX) (w : pW) (x1 : Int32) (x2 : Int32) (x3 : Int32) (y4 : Int64) (x6 : Int32) (x7 : Int32) (s0 : Int32) (s1 : Int32) (s3 : Int32), p_ev scr 148 185 [.ref 24, .int x1, .int x2, .int x3, .long y4, p_U, .int x6, .int x7] [.int s0, .int s1, .ref 24, .int s3, .ref 33] w = p_ev scr 148 186 [.ref 24, .int x1, .int x2, .int x3, .long y4, p_U, .int x6, .int x7] [.int x2, .int s0, .int s1, .ref 24, .int s3, .ref 33] w) ∧
  (∀ (scr : pX) (w : pW) (x1 : Int32) (x2 : Int32) (x3 : Int32) (y4 : Int64) (x6 : Int32) (x7 : Int32) (s0 : Int32) (s1 : Int32) (s2 : Int32) (s4 : Int32), p_ev scr 148 186 [.ref 24, .int x1, .int x2, .int x3, .long y4, p_U, .int x6, .int x7] [.int s0, .int s1, .int s2, .ref 24, .int s4, .ref 33] w = p_bnd scr 148 186 189 [.ref 24, .int x1, .int x2, .int x3, .long y4, p_U, .int x6, .int x7] [.int s4, .ref 33] (p_ev none 146 0 [.ref 24, .int s2, .int s1, .int s0, p_U] [] w)) ∧
  (∀ (scr : pX) (w : pW) (x1 : Int32) (x2 : Int32) (x3 : Int32) (y4 : Int64) (x6 : Int32) (x7 : Int32) (s0 : Int32) (s1 : Int32), p_ev scr 148 189 [.ref 24, .int x1, .int x2, .int x3, .long y4, p_U, .int x6, .int x7] [.int s0, .int s1, .ref 33] w = if s0 = nI 0 then p_ev scr 148 196 [.ref 24, .int x1, .int x2, .int x3, .long y4, p_U, .int x6, .int x7] [.int s1, .ref 33] w else p_ev scr 148 192 [.ref 24, .int x1, .int x2, .int x3, .long y4, p_U, .int x6, .int x7] [.int s1, .ref 33] w) ∧
  (∀ (scr : pX) (w : pW) (x1 : Int32) (x2 : Int32) (x3 : Int32) (y4 : Int64) (x6 : Int32) (x7 : Int32) (s0 : Int32), p_ev scr 148 192 [.ref 24, .int x1, .int x2, .int x3, .long y4, p_U, .int x6, .int x7] [.int s0, .ref 33] w = p_ev scr 148 193 [.ref 24, .int x1, .int x2, .int x3, .long y4, p_U, .int x6, .int x7] [.int (nI 1), .int s0, .ref 33] w) ∧
  (∀ (scr : pX) (w : pW) (x1 : Int32) (x2 : Int32) (x3 : Int32) (y4 : Int64) (x6 : Int32) (x7 : Int32) (s0 : Int32) (s1 : Int32), p_ev scr 148 193 [.ref 24, .int x1, .int x2, .int x3, .long y4, p_U, .int x6, .int x7] [.int s0, .int s1, .ref 33] w = p_ev scr 148 203 [.ref 24, .int x1, .int x2, .int x3, .long y4, p_U, .int x6, .int x7] [.int s0, .int s1, .ref 33] w) ∧
  (∀ (scr : pX) (w : pW) (x1 : Int32) (x2 : Int32) (x3 : Int32) (y4 : Int64) (x6 : Int32) (x7 : Int32) (s0 : Int32), p_ev scr 148 196 [.ref 24, .int x1, .int x2, .int x3, .long y4, p_U, .int x6, .int x7] [.int s0, .ref 33] w = p_ev scr 148 197 [.ref 24, .int x1, .int x2, .int x3, .long y4, p_U, .int x6, .int x7] [.ref 24, .int s0, .ref 33] w) ∧
  (∀ (scr : pX) (w : pW) (x1 : Int32) (x2 : Int32) (x3 : Int32) (y4 : Int64) (x6 : Int32) (x7 : Int32) (s1 : Int32), p_ev scr 148 197 [.ref 24, .int x1, .int x2, .int x3, .long y4, p_U, .int x6, .int x7] [.ref 24, .int s1, .ref 33] w = p_ev scr 148 200 [.ref 24, .int x1, .int x2, .int x3, .long y4, p_U, .int x6, .int x7] [.ref 33, .int s1, .ref 33] w) ∧
  (∀ (scr : pX) (w : pW) (x1 : Int32) (x2 : Int32) (x3 : Int32) (y4 : Int64) (x6 : Int32) (x7 : Int32) (s1 : Int32), p_ev scr 148 200 [.ref 24, .int x1, .int x2, .int x3, .long y4, p_U, .int x6, .int x7] [.ref 33, .int s1, .ref 33] w = p_ev scr 148 202 [.ref 24, .int x1, .int x2, .int x3, .long y4, p_U, .int x6, .int x7] [.int x7, .ref 33, .int s1, .ref 33] w) ∧
  (∀ (scr : pX) (w : pW) (x1 : Int32) (x2 : Int32) (x3 : Int32) (y4 : Int64) (x6 : Int32) (x7 : Int32) (s0 : Int32) (s2 : Int32), p_out s0 32 = false → p_ev scr 148 202 [.ref 24, .int x1, .int x2, .int x3, .long y4, p_U, .int x6, .int x7] [.int s0, .ref 33, .int s2, .ref 33] w = p_ev scr 148 203 [.ref 24, .int x1, .int x2, .int x3, .long y4, p_U, .int x6, .int x7] [.int (w.2.2 33 s0.toNatClampNeg), .int s2, .ref 33] w) ∧
  (∀ (scr : pX) (w : pW) (x1 : Int32) (x2 : Int32) (x3 : Int32) (y4 : Int64) (x6 : Int32) (x7 : Int32) (s0 : Int32) (s1 : Int32), p_out s1 32 = false → p_ev scr 148 203 [.ref 24, .int x1, .int x2, .int x3, .long y4, p_U, .int x6, .int x7] [.int s0, .int s1, .ref 33] w = p_ev scr 148 204 [.ref 24, .int x1, .int x2, .int x3, .long y4, p_U, .int x6, .int x7] [] (w.1, w.2.1, p_u w.2.2 33 s1.toNatClampNeg s0)) ∧
  (∀ (scr : pX) (w : pW) (x1 : Int32) (x2 : Int32) (x3 : Int32) (y4 : Int64) (x6 : Int32) (x7 : Int32), p_ev scr 148 204 [.ref 24, .int x1, .int x2, .int x3, .long y4, p_U, .int x6, .int x7] [] w = p_ev scr 148 207 [.ref 24, .int x1, .int x2, .int x3, .long y4, p_U, .int x6, .int (x7 + (nI 1))] [] w) ∧
  (∀ (scr : pX) (w : pW) (x1 : Int32) (x2 : Int32) (x3 : Int32) (y4 : Int64) (x6 : Int32) (x7 : Int32), p_ev scr 148 207 [.ref 24, .int x1, .int x2, .int x3, .long y4, p_U, .int x6, .int x7] [] w = p_ev scr 148 161 [.ref 24, .int x1, .int x2, .int x3, .long y4, p_U, .int x6, .int x7] [] w) ∧
  (∀ (scr : pX) (w : pW) (x1 : Int32) (x2 : Int32) (x3 : Int32) (y4 : Int64) (z6 : Value) (z7 : Value), p_ev scr 148 210 [.ref 24, .int x1, .int x2, .int x3, .long y4, p_U, z6, z7] [] w = p_ev scr 148 213 [.ref 24, .int x1, .int x2, .int (x3 + (nI 1)), .long y4, p_U, z6, z7] [] w) ∧
  (∀ (scr : pX) (w : pW) (x1 : Int32) (x2 : Int32) (x3 : Int32) (y4 : Int64) (z6 : Value) (z7 : Value), p_ev scr 148 213 [.ref 24, .int x1, .int x2, .int x3, .long y4, p_U, z6, z7] [] w = p_ev scr 148 25 [.ref 24, .int x1, .int x2, .int x3, .long y4, p_U, z6, z7] [] w) ∧
  (∀ (scr : pX) (w : pW) (x1 : Int32) (x2 : Int32) (x3 : Int32) (z4 : Value) (z6 : Value) (z7 : Value), p_ev scr 148 216 [.ref 24, .int x1, .int x2, .int x3, z4, p_U, z6, z7] [] w = some (.inl none, w, 0)) :=
  ⟨fun _ _ _ _ => p_r (by decide +kernel : p_at 148 0 = some (.iconst 0)) rfl,
  fun _ _ _ _ _ => p_r (by decide +kernel : p_at 148 1 = some (.istore_n 3)) rfl,
  fun _ _ _ _ _ _ => p_r (by decide +kernel : p_at 148 3 = some (.aload_n 0)) rfl,
  fun _ _ _ _ _ _ => p_rgf (f := none) (by decide +kernel : p_at 148 4 = some (.getfield 17)) (by decide +kernel : p_fld (p_own 148) 17 = some (5, 2)) (rfl : p_ob 24 = some (.inr (5, [some 25, some 26, none, none, none, some 27, some 28, some 29, some 30, some 31, some 32, some 33, some 34, some 35, some 36, some 37, some 38, some 39, none, none, some 40]))) rfl,
  fun _ _ _ _ _ _ _ => p_rb2 (c := fun x y => decide (y ≤ x)) (off := 16) (by decide +kernel : p_at 148 7 = some (.if_icmp .ge 16)) (by decide +kernel) rfl rfl rfl,
  fun _ _ _ _ _ => p_r (by decide +kernel : p_at 148 10 = some (.aload_n 0)) rfl,
  fun _ _ _ _ _ => p_rgf (f := some 33) (by decide +kernel : p_at 148 11 = some (.getfield 39)) (by decide +kernel : p_fld (p_own 148) 39 = some (5, 11)) (rfl : p_ob 24 = some (.inr (5, [some 25, some 26, none, none, none, some 27, some 28, some 29, some 30, some 31, some 32, some 33, some 34, some 35, some 36, some 37, some 38, some 39, none, none, some 40]))) rfl,
  fun _ _ _ _ _ => p_r (by decide +kernel : p_at 148 14 = some (.iload_n 3)) rfl,
  fun _ _ _ _ _ _ => p_r (by decide +kernel : p_at 148 15 = some (.iconst 0)) rfl,
  fun _ _ _ _ _ _ _ hp => p_riast (by decide +kernel : p_at 148 16 = some (.iastore)) (rfl : p_ob 33 = some (.inl (1, 32))) hp,
  fun _ _ _ _ _ => p_r (by decide +kernel : p_at 148 17 = some (.iinc 3 1)) rfl,
  fun _ _ _ _ _ => p_rgo (by decide +kernel : p_at 148 20 = some (.goto (-18))) (by decide +kernel),
  fun _ _ _ _ _ => p_r (by decide +kernel : p_at 148 23 = some (.iconst 0)) rfl,
  fun _ _ _ _ _ _ => p_r (by decide +kernel : p_at 148 24 = some (.istore_n 3)) rfl,
  fun _ _ _ _ _ _ _ _ _ => p_r (by decide +kernel : p_at 148 26 = some (.aload_n 0)) rfl,
  fun _ _ _ _ _ _ _ _ _ => p_rgf (f := none) (by decide +kernel : p_at 148 27 = some (.getfield 17)) (by decide +kernel : p_fld (p_own 148) 17 = some (5, 2)) (rfl : p_ob 24 = some (.inr (5, [some 25, some 26, none, none, none, some 27, some 28, some 29, some 30, some 31, some 32, some 33, some 34, some 35, some 36, some 37, some 38, some 39, none, none, some 40]))) rfl,
  fun _ _ _ _ _ _ _ _ _ _ => p_rb2 (c := fun x y => decide (y ≤ x)) (off := 186) (by decide +kernel : p_at 148 30 = some (.if_icmp .ge 186)) (by decide +kernel) rfl rfl rfl,
  fun _ _ _ _ _ _ _ _ => p_r (by decide +kernel : p_at 148 33 = some (.aload_n 0)) rfl,
  fun _ _ _ _ _ _ _ _ => p_rgf (f := some 32) (by decide +kernel : p_at 148 34 = some (.getfield 36)) (by decide +kernel : p_fld (p_own 148) 36 = some (5, 10)) (rfl : p_ob 24 = some (.inr (5, [some 25, some 26, none, none, none, some 27, some 28, some 29, some 30, some 31, some 32, some 33, some 34, some 35, some 36, some 37, some 38, some 39, none, none, some 40]))) rfl,
  fun _ _ _ _ _ _ _ _ => p_r (by decide +kernel : p_at 148 37 = some (.iload_n 3)) rfl,
  fun _ _ _ _ _ _ _ _ _ hp => p_rlald (by decide +kernel : p_at 148 38 = some (.laload)) (rfl : p_ob 32 = some (.inl (2, 32))) hp,
  fun _ _ _ _ _ _ _ _ _ => p_rcs (nl := 2) (by decide +kernel : p_at 148 39 = some (.invokestatic 66)) (by decide +kernel : p_inv (p_own 148) 66 = some (1, 98, 1)) (by decide +kernel) rfl rfl (Nat.le_of_ble_eq_true rfl) (Nat.le_of_ble_eq_true rfl) (Nat.le_of_ble_eq_true rfl) rfl,
  fun _ _ _ _ _ _ _ _ _ => p_r (by decide +kernel : p_at 148 42 = some (.lstore 4)) rfl,
  fun _ _ _ _ _ _ _ _ => p_r (by decide +kernel : p_at 148 44 = some (.lload 4)) rfl,
  fun _ _ _ _ _ _ _ _ _ => p_r (by decide +kernel : p_at 148 46 = some (.iload_n 1)) rfl,
  fun _ _ _ _ _ _ _ _ _ _ => p_r (by decide +kernel : p_at 148 47 = some (.lshr)) rfl,
  fun _ _ _ _ _ _ _ _ _ => p_r (by decide +kernel : p_at 148 48 = some (.lconst 1)) rfl,
  fun _ _ _ _ _ _ _ _ _ _ => p_r (by decide +kernel : p_at 148 49 = some (.lcmp)) rfl,
  fun _ _ _ _ _ _ _ _ _ => p_rb1 (c := fun x => decide (0 < x)) (off := 160) (by decide +kernel : p_at 148 50 = some (.ifCond .gt 160)) (by decide +kernel) rfl rfl rfl,
  fun _ _ _ _ _ _ _ _ => p_r (by decide +kernel : p_at 148 53 = some (.aload_n 0)) rfl,
  fun _ _ _ _ _ _ _ _ => p_rgf (f := some 33) (by decide +kernel : p_at 148 54 = some (.getfield 39)) (by decide +kernel : p_fld (p_own 148) 39 = some (5, 11)) (rfl : p_ob 24 = some (.inr (5, [some 25, some 26, none, none, none, some 27, some 28, some 29, some 30, some 31, some 32, some 33, some 34, some 35, some 36, some 37, some 38, some 39, none, none, some 40]))) rfl,
  fun _ _ _ _ _ _ _ _ => p_r (by decide +kernel : p_at 148 57 = some (.iload_n 3)) rfl,
  fun _ _ _ _ _ _ _ _ _ hp => p_riald (by decide +kernel : p_at 148 58 = some (.iaload)) (rfl : p_ob 33 = some (.inl (1, 32))) hp,
  fun _ _ _ _ _ _ _ _ _ => p_r (by decide +kernel : p_at 148 59 = some (.iconst 1)) rfl,
  fun _ _ _ _ _ _ _ _ _ _ => p_rb2 (c := fun x y => decide (¬ x = y)) (off := 6) (by decide +kernel : p_at 148 60 = some (.if_icmp .ne 6)) (by decide +kernel) rfl rfl rfl,
  fun _ _ _ _ _ _ _ _ => p_rgo (by decide +kernel : p_at 148 63 = some (.goto 147)) (by decide +kernel),
  fun _ _ _ _ _ _ _ _ => p_r (by decide +kernel : p_at 148 66 = some (.lload 4)) rfl,
  fun _ _ _ _ _ _ _ _ _ => p_r (by decide +kernel : p_at 148 68 = some (.iload_n 1)) rfl,
  fun _ _ _ _ _ _ _ _ _ _ => p_r (by decide +kernel : p_at 148 69 = some (.lshr)) rfl,
  fun _ _ _ _ _ _ _ _ _ => p_r (by decide +kernel : p_at 148 70 = some (.lconst 1)) rfl,
  fun _ _ _ _ _ _ _ _ _ _ => p_r (by decide +kernel : p_at 148 71 = some (.lcmp)) rfl,
  fun _ _ _ _ _ _ _ _ _ => p_rb1 (c := fun x => decide (¬ x = 0)) (off := 40) (by decide +kernel : p_at 148 72 = some (.ifCond .ne 40)) (by decide +kernel) rfl rfl rfl,
  fun _ _ _ _ _ _ _ _ => p_r (by decide +kernel : p_at 148 75 = some (.aload_n 0)) rfl,
  fun _ _ _ _ _ _ _ _ => p_r (by decide +kernel : p_at 148 76 = some (.iconst 1)) rfl,
  fun _ _ _ _ _ _ _ _ _ => p_r (by decide +kernel : p_at 148 77 = some (.iload_n 3)) rfl,
  fun _ _ _ _ _ _ _ _ _ _ => p_r (by decide +kernel : p_at 148 78 = some (.bipush 64)) rfl,
  fun _ _ _ _ _ _ _ _ _ _ _ => p_r (by decide +kernel : p_at 148 80 = some (.iload_n 1)) rfl,
  fun _ _ _ _ _ _ _ _ _ _ _ _ => p_r (by decide +kernel : p_at 148 81 = some (.iadd)) rfl,
  fun _ _ _ _ _ _ _ _ _ _ _ => p_rcv (nl := 4) (by decide +kernel : p_at 148 82 = some (.invokevirtual 192)) (by decide +kernel : p_inv (p_own 148) 192 = some (1, 144, 4)) (by decide +kernel) (rfl : p_ob 24 = some (.inr (5, [some 25, some 26, none, none, none, some 27, some 28, some 29, some 30, some 31, some 32, some 33, some 34, some 35, some 36, some 37, some 38, some 39, none, none, some 40]))) rfl rfl (Nat.le_of_ble_eq_true rfl) (Nat.le_of_ble_eq_true rfl) (Nat.le_of_ble_eq_true rfl) rfl,
  fun _ _ _ _ _ _ _ _ => p_r (by decide +kernel : p_at 148 85 = some (.aload_n 0)) rfl,
  fun _ _ _ _ _ _ _ _ => p_r (by decide +kernel : p_at 148 86 = some (.aload_n 0)) rfl,
  fun _ _ _ _ _ _ _ _ => p_rgf (f := some 32) (by decide +kernel : p_at 148 87 = some (.getfield 36)) (by decide +kernel : p_fld (p_own 148) 36 = some (5, 10)) (rfl : p_ob 24 = some (.inr (5, [some 25, some 26, none, none, none, some 27, some 28, some 29, some 30, some 31, some 32, some 33, some 34, some 35, some 36, some 37, some 38, some 39, none, none, some 40]))) rfl,
  fun _ _ _ _ _ _ _ _ => p_r (by decide +kernel : p_at 148 90 = some (.iload_n 3)) rfl,
  fun _ _ _ _ _ _ _ _ _ hp => p_rlald (by decide +kernel : p_at 148 91 = some (.laload)) (rfl : p_ob 32 = some (.inl (2, 32))) hp,
  fun _ _ _ _ _ _ _ _ _ => p_r (by decide +kernel : p_at 148 92 = some (.lconst 0)) rfl,
  fun _ _ _ _ _ _ _ _ _ _ => p_r (by decide +kernel : p_at 148 93 = some (.lcmp)) rfl,
  fun _ _ _ _ _ _ _ _ _ => p_rb1 (c := fun x => decide (0 ≤ x)) (off := 7) (by decide +kernel : p_at 148 94 = some (.ifCond .ge 7)) (by decide +kernel) rfl rfl rfl,
  fun _ _ _ _ _ _ _ _ => p_r (by decide +kernel : p_at 148 97 = some (.iconst 1)) rfl,
  fun _ _ _ _ _ _ _ _ _ => p_rgo (by decide +kernel : p_at 148 98 = some (.goto 4)) (by decide +kernel),
  fun _ _ _ _ _ _ _ _ => p_r (by decide +kernel : p_at 148 101 = some (.iconst 0)) rfl,
  fun _ _ _ _ _ _ _ _ _ => p_r (by decide +kernel : p_at 148 102 = some (.iload_n 3)) rfl,
  fun _ _ _ _ _ _ _ _ _ _ => p_r (by decide +kernel : p_at 148 103 = some (.sipush 128)) rfl,
  fun _ _ _ _ _ _ _ _ _ _ _ => p_rcv (nl := 4) (by decide +kernel : p_at 148 106 = some (.invokevirtual 192)) (by decide +kernel : p_inv (p_own 148) 192 = some (1, 144, 4)) (by decide +kernel) (rfl : p_ob 24 = some (.inr (5, [some 25, some 26, none, none, none, some 27, some 28, some 29, some 30, some 31, some 32, some 33, some 34, some 35, some 36, some 37, some 38, some 39, none, none, some 40]))) rfl rfl (Nat.le_of_ble_eq_true rfl) (Nat.le_of_ble_eq_true rfl) (Nat.le_of_ble_eq_true rfl) rfl,
  fun _ _ _ _ _ _ _ _ => p_rgo (by decide +kernel : p_at 148 109 = some (.goto 101)) (by decide +kernel),
  fun _ _ _ _ _ _ _ _ => p_r (by decide +kernel : p_at 148 112 = some (.aload_n 0)) rfl,
  fun _ _ _ _ _ _ _ _ => p_r (by decide +kernel : p_at 148 113 = some (.iconst 0)) rfl,
  fun _ _ _ _ _ _ _ _ _ => p_r (by decide +kernel : p_at 148 114 = some (.iload_n 3)) rfl,
  fun _ _ _ _ _ _ _ _ _ _ => p_r (by decide +kernel : p_at 148 115 = some (.iconst 0)) rfl,
  fun _ _ _ _ _ _ _ _ _ _ _ => p_rcv (nl := 4) (by decide +kernel : p_at 148 116 = some (.invokevirtual 192)) (by decide +kernel : p_inv (p_own 148) 192 = some (1, 144, 4)) (by decide +kernel) (rfl : p_ob 24 = some (.inr (5, [some 25, some 26, none, none, none, some 27, some 28, some 29, some 30, some 31, some 32, some 33, some 34, some 35, some 36, some 37, some 38, some 39, none, none, some 40]))) rfl rfl (Nat.le_of_ble_eq_true rfl) (Nat.le_of_ble_eq_true rfl) (Nat.le_of_ble_eq_true rfl) rfl,
  fun _ _ _ _ _ _ _ _ => p_r (by decide +kernel : p_at 148 119 = some (.aload_n 0)) rfl,
  fun _ _ _ _ _ _ _ _ => p_r (by decide +kernel : p_at 148 120 = some (.iload_n 3)) rfl,
  fun _ _ _ _ _ _ _ _ _ => p_r (by decide +kernel : p_at 148 121 = some (.iload_n 2)) rfl,
  fun _ _ _ _ _ _ _ _ _ _ => p_rcv (nl := 4) (by decide +kernel : p_at 148 122 = some (.invokevirtual 195)) (by decide +kernel : p_inv (p_own 148) 195 = some (1, 145, 3)) (by decide +kernel) (rfl : p_ob 24 = some (.inr (5, [some 25, some 26, none, none, none, some 27, some 28, some 29, some 30, some 31, some 32, some 33, some 34, some 35, some 36, some 37, some 38, some 39, none, none, some 40]))) rfl rfl (Nat.le_of_ble_eq_true rfl) (Nat.le_of_ble_eq_true rfl) (Nat.le_of_ble_eq_true rfl) rfl,
  fun _ _ _ _ _ _ _ _ _ => p_rb1 (c := fun x => decide (0 ≤ x)) (off := 6) (by decide +kernel : p_at 148 125 = some (.ifCond .ge 6)) (by decide +kernel) rfl rfl rfl,
  fun _ _ _ _ _ _ _ _ => p_rgo (by decide +kernel : p_at 148 128 = some (.goto 82)) (by decide +kernel),
  fun _ _ _ _ _ _ _ _ => p_r (by decide +kernel : p_at 148 131 = some (.aload_n 0)) rfl,
  fun _ _ _ _ _ _ _ _ => p_r (by decide +kernel : p_at 148 132 = some (.iload_n 3)) rfl,
  fun _ _ _ _ _ _ _ _ _ => p_r (by decide +kernel : p_at 148 133 = some (.iload_n 2)) rfl,
  fun _ _ _ _ _ _ _ _ _ _ => p_r (by decide +kernel : p_at 148 134 = some (.iload_n 1)) rfl,
  fun _ _ _ _ _ _ _ _ _ _ _ => p_rcv (nl := 6) (by decide +kernel : p_at 148 135 = some (.invokevirtual 198)) (by decide +kernel : p_inv (p_own 148) 198 = some (1, 147, 4)) (by decide +kernel) (rfl : p_ob 24 = some (.inr (5, [some 25, some 26, none, none, none, some 27, some 28, some 29, some 30, some 31, some 32, some 33, some 34, some 35, some 36, some 37, some 38, some 39, none, none, some 40]))) rfl rfl (Nat.le_of_ble_eq_true rfl) (Nat.le_of_ble_eq_true rfl) (Nat.le_of_ble_eq_true rfl) rfl,
  fun _ _ _ _ _ _ _ _ _ => p_r (by decide +kernel : p_at 148 138 = some (.istore 6)) rfl,
  fun _ _ _ _ _ _ _ _ => p_r (by decide +kernel : p_at 148 140 = some (.aload_n 0)) rfl,
  fun _ _ _ _ _ _ _ _ => p_r (by decide +kernel : p_at 148 141 = some (.iload 6)) rfl,
  fun _ _ _ _ _ _ _ _ _ => p_rb1 (c := fun x => decide (x = 0)) (off := 7) (by decide +kernel : p_at 148 143 = some (.ifCond .eq 7)) (by decide +kernel) rfl rfl rfl,
  fun _ _ _ _ _ _ _ _ => p_r (by decide +kernel : p_at 148 146 = some (.iconst 1)) rfl,
  fun _ _ _ _ _ _ _ _ _ => p_rgo (by decide +kernel : p_at 148 147 = some (.goto 4)) (by decide +kernel),
  fun _ _ _ _ _ _ _ _ => p_r (by decide +kernel : p_at 148 150 = some (.iconst 0)) rfl,
  fun _ _ _ _ _ _ _ _ _ => p_r (by decide +kernel : p_at 148 151 = some (.iload_n 3)) rfl,
  fun _ _ _ _ _ _ _ _ _ _ => p_r (by decide +kernel : p_at 148 152 = some (.iconst 0)) rfl,
  fun _ _ _ _ _ _ _ _ _ _ _ => p_rcv (nl := 4) (by decide +kernel : p_at 148 153 = some (.invokevirtual 192)) (by decide +kernel : p_inv (p_own 148) 192 = some (1, 144, 4)) (by decide +kernel) (rfl : p_ob 24 = some (.inr (5, [some 25, some 26, none, none, none, some 27, some 28, some 29, some 30, some 31, some 32, some 33, some 34, some 35, some 36, some 37, some 38, some 39, none, none, some 40]))) rfl rfl (Nat.le_of_ble_eq_true rfl) (Nat.le_of_ble_eq_true rfl) (Nat.le_of_ble_eq_true rfl) rfl,
  fun _ _ _ _ _ _ _ _ => p_r (by decide +kernel : p_at 148 156 = some (.iload_n 3)) rfl,
  fun _ _ _ _ _ _ _ _ _ => p_r (by decide +kernel : p_at 148 157 = some (.iconst 1)) rfl,
  fun _ _ _ _ _ _ _ _ _ _ => p_r (by decide +kernel : p_at 148 158 = some (.iadd)) rfl,
  fun _ _ _ _ _ _ _ _ _ => p_r (by decide +kernel : p_at 148 159 = some (.istore 7)) rfl,
  fun _ _ _ _ _ _ _ _ _ => p_r (by decide +kernel : p_at 148 163 = some (.aload_n 0)) rfl,
  fun _ _ _ _ _ _ _ _ _ => p_rgf (f := none) (by decide +kernel : p_at 148 164 = some (.getfield 17)) (by decide +kernel : p_fld (p_own 148) 17 = some (5, 2)) (rfl : p_ob 24 = some (.inr (5, [some 25, some 26, none, none, none, some 27, some 28, some 29, some 30, some 31, some 32, some 33, some 34, some 35, some 36, some 37, some 38, some 39, none, none, some 40]))) rfl,
  fun _ _ _ _ _ _ _ _ _ _ => p_rb2 (c := fun x y => decide (y ≤ x)) (off := 43) (by decide +kernel : p_at 148 167 = some (.if_icmp .ge 43)) (by decide +kernel) rfl rfl rfl,
  fun _ _ _ _ _ _ _ _ => p_r (by decide +kernel : p_at 148 170 = some (.iload 6)) rfl,
  fun _ _ _ _ _ _ _ _ _ => p_rb1 (c := fun x => decide (¬ x = 0)) (off := 38) (by decide +kernel : p_at 148 172 = some (.ifCond .ne 38)) (by decide +kernel) rfl rfl rfl,
  fun _ _ _ _ _ _ _ _ => p_r (by decide +kernel : p_at 148 175 = some (.aload_n 0)) rfl,
  fun _ _ _ _ _ _ _ _ => p_rgf (f := some 33) (by decide +kernel : p_at 148 176 = some (.getfield 39)) (by decide +kernel : p_fld (p_own 148) 39 = some (5, 11)) (rfl : p_ob 24 = some (.inr (5, [some 25, some 26, none, none, none, some 27, some 28, some 29, some 30, some 31, some 32, some 33, some 34, some 35, some 36, some 37, some 38, some 39, none, none, some 40]))) rfl,
  fun _ _ _ _ _ _ _ _ => p_r (by decide +kernel : p_at 148 179 = some (.iload 7)) rfl,
  fun _ _ _ _ _ _ _ _ _ => p_r (by decide +kernel : p_at 148 181 = some (.aload_n 0)) rfl,
  fun _ _ _ _ _ _ _ _ _ => p_r (by decide +kernel : p_at 148 182 = some (.iload 7)) rfl,
  fun _ _ _ _ _ _ _ _ _ _ => p_r (by decide +kernel : p_at 148 184 = some (.iload_n 3)) rfl,
  fun _ _ _ _ _ _ _ _ _ _ _ => p_r (by decide +kernel : p_at 148 185 = some (.iload_n 2)) rfl,
  fun _ _ _ _ _ _ _ _ _ _ _ _ => p_rcv (nl := 5) (by decide +kernel : p_at 148 186 = some (.invokevirtual 189)) (by decide +kernel : p_inv (p_own 148) 189 = some (1, 146, 4)) (by decide +kernel) (rfl : p_ob 24 = some (.inr (5, [some 25, some 26, none, none, none, some 27, some 28, some 29, some 30, some 31, some 32, some 33, some 34, some 35, some 36, some 37, some 38, some 39, none, none, some 40]))) rfl rfl (Nat.le_of_ble_eq_true rfl) (Nat.le_of_ble_eq_true rfl) (Nat.le_of_ble_eq_true rfl) rfl,
  fun _ _ _ _ _ _ _ _ _ _ => p_rb1 (c := fun x => decide (x = 0)) (off := 7) (by decide +kernel : p_at 148 189 = some (.ifCond .eq 7)) (by decide +kernel) rfl rfl rfl,
  fun _ _ _ _ _ _ _ _ _ => p_r (by decide +kernel : p_at 148 192 = some (.iconst 1)) rfl,
  fun _ _ _ _ _ _ _ _ _ _ => p_rgo (by decide +kernel : p_at 148 193 = some (.goto 10)) (by decide +kernel),
  fun _ _ _ _ _ _ _ _ _ => p_r (by decide +kernel : p_at 148 196 = some (.aload_n 0)) rfl,
  fun _ _ _ _ _ _ _ _ _ => p_rgf (f := some 33) (by decide +kernel : p_at 148 197 = some (.getfield 39)) (by decide +kernel : p_fld (p_own 148) 39 = some (5, 11)) (rfl : p_ob 24 = some (.inr (5, [some 25, some 26, none, none, none, some 27, some 28, some 29, some 30, some 31, some 32, some 33, some 34, some 35, some 36, some 37, some 38, some 39, none, none, some 40]))) rfl,
  fun _ _ _ _ _ _ _ _ _ => p_r (by decide +kernel : p_at 148 200 = some (.iload 7)) rfl,
  fun _ _ _ _ _ _ _ _ _ _ hp => p_riald (by decide +kernel : p_at 148 202 = some (.iaload)) (rfl : p_ob 33 = some (.inl (1, 32))) hp,
  fun _ _ _ _ _ _ _ _ _ _ hp => p_riast (by decide +kernel : p_at 148 203 = some (.iastore)) (rfl : p_ob 33 = some (.inl (1, 32))) hp,
  fun _ _ _ _ _ _ _ _ => p_r (by decide +kernel : p_at 148 204 = some (.iinc 7 1)) rfl,
  fun _ _ _ _ _ _ _ _ => p_rgo (by decide +kernel : p_at 148 207 = some (.goto (-46))) (by decide +kernel),
  fun _ _ _ _ _ _ _ _ => p_r (by decide +kernel : p_at 148 210 = some (.iinc 3 1)) rfl,
  fun _ _ _ _ _ _ _ _ => p_rgo (by decide +kernel : p_at 148 213 = some (.goto (-188))) (by decide +kernel),
  fun _ _ _ _ _ _ _ _ => p_rvret (by decide +kernel : p_at 148 216 = some (.return_)) (by decide +kernel)⟩
theorem H148_2 :
  (∀ (scr : pX) (w : pW) (x1 : Int32) (x2 : Int32) (x3 : Int32), p_ev scr 148 2 [.ref 24, .int x1, .int x2, .int x3, p_U, p_U, p_U, p_U] [] w = p_ev scr 148 3 [.ref 24, .int x1, .int x2, .int x3, p_U, p_U, p_U, p_U] [.int x3] w) :=
  fun _ _ _ _ _ => p_r (by decide +kernel : p_at 148 2 = some (.iload_n 3)) rfl
theorem H148_25 :
  (∀ (scr : pX) (w : pW) (x1 : Int32) (x2 : Int32) (x3 : Int32) (z4 : Value) (z6 : Value) (z7 : Value), p_ev scr 148 25 [.ref 24, .int x1, .int x2, .int x3, z4, p_U, z6, z7] [] w = p_ev scr 148 26 [.ref 24, .int x1, .int x2, .int x3, z4, p_U, z6, z7] [.int x3] w) :=
  fun _ _ _ _ _ _ _ _ => p_r (by decide +kernel : p_at 148 25 = some (.iload_n 3)) rfl
theorem H148_161 :
  (∀ (scr : pX) (w : pW) (x1 : Int32) (x2 : Int32) (x3 : Int32) (y4 : Int64) (x6 : Int32) (x7 : Int32), p_ev scr 148 161 [.ref 24, .int x1, .int x2, .int x3, .long y4, p_U, .int x6, .int x7] [] w = p_ev scr 148 163 [.ref 24, .int x1, .int x2, .int x3, .long y4, p_U, .int x6, .int x7] [.int x7] w) :=
  fun _ _ _ _ _ _ _ _ => p_r (by decide +kernel : p_at 148 161 = some (.iload 7)) rfl
-- 149: layCode
theorem M149 :
  (∀ (scr : pX) (w : pW), p_ev scr 149 0 [.ref 24, p_U, p_U, p_U, p_U, p_U, p_U] [] w = p_ev scr 149 1 [.ref 24, p_U, p_U, p_U, p_U, p_U, p_U] [.ref 24] w) ∧
  (∀ (scr : pX) (w : pW), p_ev scr 149 1 [.ref 24, p_U, p_U, p_U, p_U, p_U, p_U] [.ref 24] w = p_bnd scr 149 1 4 [.ref 24, p_U, p_U, p_U, p_U, p_U, p_U] [] (p_ev none 143 0 [.ref 24, p_U, p_U, p_U] [] w)) ∧
  (∀ (scr : pX) (w : pW), p_ev scr 149 4 [.ref 24, p_U, p_U, p_U, p_U, p_U, p_U] [] w = p_ev scr 149 5 [.ref 24, p_U, p_U, p_U, p_U, p_U, p_U] [.ref 24] w) ∧
  (∀ (scr : pX) (w : pW), p_ev scr 149 5 [.ref 24, p_U, p_U, p_U, p_U, p_U, p_U] [.ref 24] w = p_ev scr 149 6 [.ref 24, p_U, p_U, p_U, p_U, p_U, p_U] [.ref 24, .ref 24] w) ∧
  (∀ (scr : pX) (w : pW), p_ev scr 149 6 [.ref 24, p_U, p_U, p_U, p_U, p_U, p_U] [.ref 24, .ref 24] w = p_ev scr 149 9 [.ref 24, p_U, p_U, p_U, p_U, p_U, p_U] [.int (w.1 24 19), .ref 24] w) ∧
  (∀ (scr : pX) (w : pW) (s0 : Int32), p_ev scr 149 9 [.ref 24, p_U, p_U, p_U, p_U, p_U, p_U] [.int s0, .ref 24] w = p_bnd scr 149 9 12 [.ref 24, p_U, p_U, p_U, p_U, p_U, p_U] [] (p_ev none 101 0 [.ref 24, .int s0, p_U, p_U] [] w)) ∧
  (∀ (scr : pX) (w : pW) (s0 : Int32), p_ev scr 149 12 [.ref 24, p_U, p_U, p_U, p_U, p_U, p_U] [.int s0] w = p_ev scr 149 13 [.ref 24, .int s0, p_U, p_U, p_U, p_U, p_U] [] w) ∧
  (∀ (scr : pX) (w : pW) (x1 : Int32), p_ev scr 149 13 [.ref 24, .int x1, p_U, p_U, p_U, p_U, p_U] [] w = p_ev scr 149 14 [.ref 24, .int x1, p_U, p_U, p_U, p_U, p_U] [.int (nI 0)] w) ∧
  (∀ (scr : pX) (w : pW) (x1 : Int32) (s0 : Int32), p_ev scr 149 14 [.ref 24, .int x1, p_U, p_U, p_U, p_U, p_U] [.int s0] w = p_ev scr 149 15 [.ref 24, .int x1, .int s0, p_U, p_U, p_U, p_U] [] w) ∧
  (∀ (scr : pX) (w : pW) (x1 : Int32) (x2 : Int32), p_ev scr 149 15 [.ref 24, .int x1, .int x2, p_U, p_U, p_U, p_U] [] w = p_ev scr 149 16 [.ref 24, .int x1, .int x2, p_U, p_U, p_U, p_U] [.int (nI 0)] w) ∧
  (∀ (scr : pX) (w : pW) (x1 : Int32) (x2 : Int32) (s0 : Int32), p_ev scr 149 16 [.ref 24, .int x1, .int x2, p_U, p_U, p_U, p_U] [.int s0] w = p_ev scr 149 17 [.ref 24, .int x1, .int x2, .int s0, p_U, p_U, p_U] [] w) ∧
  (∀ (scr : pX) (w : pW) (x1 : Int32) (x2 : Int32) (x3 : Int32) (s0 : Int32), p_ev scr 149 18 [.ref 24, .int x1, .int x2, .int x3, p_U, p_U, p_U] [.int s0] w = p_ev scr 149 19 [.ref 24, .int x1, .int x2, .int x3, p_U, p_U, p_U] [.ref 24, .int s0] w) ∧
  (∀ (scr : pX) (w : pW) (x1 : Int32) (x2 : Int32) (x3 : Int32) (s1 : Int32), p_ev scr 149 19 [.ref 24, .int x1, .int x2, .int x3, p_U, p_U, p_U] [.ref 24, .int s1] w = p_ev scr 149 22 [.ref 24, .int x1, .int x2, .int x3, p_U, p_U, p_U] [.int (w.1 24 2), .int s1] w) ∧
  (∀ (scr : pX) (w : pW) (x1 : Int32) (x2 : Int32) (x3 : Int32) (s0 : Int32) (s1 : Int32), p_ev scr 149 22 [.ref 24, .int x1, .int x2, .int x3, p_U, p_U, p_U] [.int s0, .int s1] w = if s0 ≤ s1 then p_ev scr 149 58 [.ref 24, .int x1, .int x2, .int x3, p_U, p_U, p_U] [] w else p_ev scr 149 25 [.ref 24, .int x1, .int x2, .int x3, p_U, p_U, p_U] [] w) ∧
  (∀ (scr : pX) (w : pW) (x1 : Int32) (x2 : Int32) (x3 : Int32), p_ev scr 149 25 [.ref 24, .int x1, .int x2, .int x3, p_U, p_U, p_U] [] w = p_ev scr 149 26 [.ref 24, .int x1, .int x2, .int x3, p_U, p_U, p_U] [.ref 24] w) ∧
  (∀ (scr : pX) (w : pW) (x1 : Int32) (x2 : Int32) (x3 : Int32), p_ev scr 149 26 [.ref 24, .int x1, .int x2, .int x3, p_U, p_U, p_U] [.ref 24] w = p_ev scr 149 29 [.ref 24, .int x1, .int x2, .int x3, p_U, p_U, p_U] [.ref 32] w) ∧
  (∀ (scr : pX) (w : pW) (x1 : Int32) (x2 : Int32) (x3 : Int32), p_ev scr 149 29 [.ref 24, .int x1, .int x2, .int x3, p_U, p_U, p_U] [.ref 32] w = p_ev scr 149 30 [.ref 24, .int x1, .int x2, .int x3, p_U, p_U, p_U] [.int x3, .ref 32] w) ∧
  (∀ (scr : pX) (w : pW) (x1 : Int32) (x2 : Int32) (x3 : Int32) (s0 : Int32), p_out s0 32 = false → p_ev scr 149 30 [.ref 24, .int x1, .int x2, .int x3, p_U, p_U, p_U] [.int s0, .ref 32] w = p_ev scr 149 31 [.ref 24, .int x1, .int x2, .int x3, p_U, p_U, p_U] [.long (w.2.1 32 s0.toNatClampNeg)] w) ∧
  (∀ (scr : pX) (w : pW) (x1 : Int32) (x2 : Int32) (x3 : Int32) (t0 : Int64), p_ev scr 149 31 [.ref 24, .int x1, .int x2, .int x3, p_U, p_U, p_U] [.long t0] w = p_bnd scr 149 31 34 [.ref 24, .int x1, .int x2, .int x3, p_U, p_U, p_U] [] (p_ev none 100 0 [.long t0, p_U, p_U, p_U, p_U] [] w)) ∧
  (∀ (scr : pX) (w : pW) (x1 : Int32) (x2 : Int32) (x3 : Int32) (s0 : Int32), p_ev scr 149 34 [.ref 24, .int x1, .int x2, .int x3, p_U, p_U, p_U] [.int s0] w = p_ev scr 149 35 [.ref 24, .int x1, .int x2, .int x3, p_U, p_U, p_U] [.int x2, .int s0] w) ∧
  (∀ (scr : pX) (w : pW) (x1 : Int32) (x2 : Int32) (x3 : Int32) (s0 : Int32) (s1 : Int32), p_ev scr 149 35 [.ref 24, .int x1, .int x2, .int x3, p_U, p_U, p_U] [.int s0, .int s1] w = if s1 ≤ s0 then p_ev scr 149 50 [.ref 24, .int x1, .int x2, .int x3, p_U, p_U, p_U] [] w else p_ev scr 149 38 [.ref 24, .int x1, .int x2, .int x3, p_U, p_U, p_U] [] w) ∧
  (∀ (scr : pX) (w : pW) (x1 : Int32) (x2 : Int32) (x3 : Int32), p_ev scr 149 38 [.ref 24, .int x1, .int x2, .int x3, p_U, p_U, p_U] [] w = p_ev scr 149 39 [.ref 24, .int x1, .int x2, .int x3, p_U, p_U, p_U] [.ref 24] w) ∧
  (∀ (scr : pX) (w : pW) (x1 : Int32) (x2 : Int32) (x3 : Int32), p_ev scr 149 39 [.ref 24, .int x1, .int x2, .int x3, p_U, p_U, p_U] [.ref 24] w = p_ev scr 149 42 [.ref 24, .int x1, .int x2, .int x3, p_U, p_U, p_U] [.ref 32] w) ∧
  (∀ (scr : pX) (w : pW) (x1 : Int32) (x2 : Int32) (x3 : Int32), p_ev scr 149 42 [.ref 24, .int x1, .int x2, .int x3, p_U, p_U, p_U] [.ref 32] w = p_ev scr 149 43 [.ref 24, .int x1, .int x2, .int x3, p_U, p_U, p_U] [.int x3, .ref 32] w) ∧
  (∀ (scr : pX) (w : pW) (x1 : Int32) (x2 : Int32) (x3 : Int32) (s0 : Int32), p_out s0 32 = false → p_ev scr 149 43 [.ref 24, .int x1, .int x2, .int x3, p_U, p_U, p_U] [.int s0, .ref 32] w = p_ev scr 149 44 [.ref 24, .int x1, .int x2, .int x3, p_U, p_U, p_U] [.long (w.2.1 32 s0.toNatClampNeg)] w) ∧
  (∀ (scr : pX) (w : pW) (x1 : Int32) (x2 : Int32) (x3 : Int32) (t0 : Int64), p_ev scr 149 44 [.ref 24, .int x1, .int x2, .int x3, p_U, p_U, p_U] [.long t0] w = p_bnd scr 149 44 47 [.ref 24, .int x1, .int x2, .int x3, p_U, p_U, p_U] [] (p_ev none 100 0 [.long t0, p_U, p_U, p_U, p_U] [] w)) ∧
  (∀ (scr : pX) (w : pW) (x1 : Int32) (x2 : Int32) (x3 : Int32) (s0 : Int32), p_ev scr 149 47 [.ref 24, .int x1, .int x2, .int x3, p_U, p_U, p_U] [.int s0] w = p_ev scr 149 51 [.ref 24, .int x1, .int x2, .int x3, p_U, p_U, p_U] [.int s0] w) ∧
  (∀ (scr : pX) (w : pW) (x1 : Int32) (x2 : Int32) (x3 : Int32), p_ev scr 149 50 [.ref 24, .int x1, .int x2, .int x3, p_U, p_U, p_U] [] w = p_ev scr 149 51 [.ref 24, .int x1, .int x2, .int x3, p_U, p_U, p_U] [.int x2] w) ∧
  (∀ (scr : pX) (w : pW) (x1 : Int32) (x2 : Int32) (x3 : Int32) (s0 : Int32), p_ev scr 149 51 [.ref 24, .int x1, .int x2, .int x3, p_U, p_U, p_U] [.int s0] w = p_ev scr 149 52 [.ref 24, .int x1, .int s0, .int x3, p_U, p_U, p_U] [] w) ∧
  (∀ (scr : pX) (w : pW) (x1 : Int32) (x2 : Int32) (x3 : Int32), p_ev scr 149 52 [.ref 24, .int x1, .int x2, .int x3, p_U, p_U, p_U] [] w = p_ev scr 149 55 [.ref 24, .int x1, .int x2, .int (x3 + (nI 1)), p_U, p_U, p_U] [] w) ∧
  (∀ (scr : pX) (w : pW) (x1 : Int32) (x2 : Int32) (x3 : Int32), p_ev scr 149 55 [.ref 24, .int x1, .int x2, .int x3, p_U, p_U, p_U] [] w = p_ev scr 149 17 [.ref 24, .int x1, .int x2, .int x3, p_U, p_U, p_U] [] w) ∧
  (∀ (scr : pX) (w : pW) (x1 : Int32) (x2 : Int32) (x3 : Int32), p_ev scr 149 58 [.ref 24, .int x1, .int x2, .int x3, p_U, p_U, p_U] [] w = p_ev scr 149 59 [.ref 24, .int x1, .int x2, .int x3, p_U, p_U, p_U] [.ref 24] w) ∧
  (∀ (scr : pX) (w : pW) (x1 : Int32) (x2 : Int32) (x3 : Int32), p_ev scr 149 59 [.ref 24, .int x1, .int x2, .int x3, p_U, p_U, p_U] [.ref 24] w = p_ev scr 149 60 [.ref 24, .int x1, .int x2, .int x3, p_U, p_U, p_U] [.int (nI 0), .ref 24] w) ∧
  (∀ (scr : pX) (w : pW) (x1 : Int32) (x2 : Int32) (x3 : Int32) (s0 : Int32), p_ev scr 149 60 [.ref 24, .int x1, .int x2, .int x3, p_U, p_U, p_U] [.int s0, .ref 24] w = p_ev scr 149 63 [.ref 24, .int x1, .int x2, .int x3, p_U, p_U, p_U] [] (p_u w.1 24 18 s0, w.2)) ∧
  (∀ (scr : pX) (w : pW) (x1 : Int32) (x2 : Int32) (x3 : Int32), p_ev scr 149 63 [.ref 24, .int x1, .int x2, .int x3, p_U, p_U, p_U] [] w = p_ev scr 149 64 [.ref 24, .int x1, .int x2, .int x3, p_U, p_U, p_U] [.int (nI 5)] w) ∧
  (∀ (scr : pX) (w : pW) (x1 : Int32) (x2 : Int32) (x3 : Int32) (s0 : Int32), p_ev scr 149 64 [.ref 24, .int x1, .int x2, .int x3, p_U, p_U, p_U] [.int s0] w = p_ev scr 149 65 [.ref 24, .int x1, .int x2, .int s0, p_U, p_U, p_U] [] w) ∧
  (∀ (scr : pX) (w : pW) (x1 : Int32) (x2 : Int32) (x3 : Int32) (s0 : Int32), p_ev scr 149 66 [.ref 24, .int x1, .int x2, .int x3, p_U, p_U, p_U] [.int s0] w = if s0 < nI 0 then p_ev scr 149 86 [.ref 24, .int x1, .int x2, .int x3, p_U, p_U, p_U] [] w else p_ev scr 149 69 [.ref 24, .int x1, .int x2, .int x3, p_U, p_U, p_U] [] w) ∧
  (∀ (scr : pX) (w : pW) (x1 : Int32) (x2 : Int32) (x3 : Int32), p_ev scr 149 69 [.ref 24, .int x1, .int x2, .int x3, p_U, p_U, p_U] [] w = p_ev scr 149 70 [.ref 24, .int x1, .int x2, .int x3, p_U, p_U, p_U] [.ref 24] w) ∧
  (∀ (scr : pX) (w : pW) (x1 : Int32) (x2 : Int32) (x3 : Int32), p_ev scr 149 70 [.ref 24, .int x1, .int x2, .int x3, p_U, p_U, p_U] [.ref 24] w = p_ev scr 149 71 [.ref 24, .int x1, .int x2, .int x3, p_U, p_U, p_U] [.int x2, .ref 24] w) ∧
  (∀ (scr : pX) (w : pW) (x1 : Int32) (x2 : Int32) (x3 : Int32) (s0 : Int32), p_ev scr 149 71 [.ref 24, .int x1, .int x2, .int x3, p_U, p_U, p_U] [.int s0, .ref 24] w = p_ev scr 149 72 [.ref 24, .int x1, .int x2, .int x3, p_U, p_U, p_U] [.int x3, .int s0, .ref 24] w) ∧
  (∀ (scr : pX) (w : pW) (x1 : Int32) (x2 : Int32) (x3 : Int32) (s0 : Int32) (s1 : Int32), p_ev scr 149 72 [.ref 24, .int x1, .int x2, .int x3, p_U, p_U, p_U] [.int s0, .int s1, .ref 24] w = p_ev scr 149 73 [.ref 24, .int x1, .int x2, .int x3, p_U, p_U, p_U] [.int (s1 >>> (s0 &&& 31)), .ref 24] w) ∧
  (∀ (scr : pX) (w : pW) (x1 : Int32) (x2 : Int32) (x3 : Int32) (s0 : Int32), p_ev scr 149 73 [.ref 24, .int x1, .int x2, .int x3, p_U, p_U, p_U] [.int s0, .ref 24] w = p_ev scr 149 74 [.ref 24, .int x1, .int x2, .int x3, p_U, p_U, p_U] [.int (nI 1), .int s0, .ref 24] w) ∧
  (∀ (scr : pX) (w : pW) (x1 : Int32) (x2 : Int32) (x3 : Int32) (s0 : Int32) (s1 : Int32), p_ev scr 149 74 [.ref 24, .int x1, .int x2, .int x3, p_U, p_U, p_U] [.int s0, .int s1, .ref 24] w = p_ev scr 149 75 [.ref 24, .int x1, .int x2, .int x3, p_U, p_U, p_U] [.int (s1 &&& s0), .ref 24] w) ∧
  (∀ (scr : pX) (w : pW) (x1 : Int32) (x2 : Int32) (x3 : Int32) (s0 : Int32), p_ev scr 149 75 [.ref 24, .int x1, .int x2, .int x3, p_U, p_U, p_U] [.int s0, .ref 24] w = p_ev scr 149 76 [.ref 24, .int x1, .int x2, .int x3, p_U, p_U, p_U] [.int (nI 0), .int s0, .ref 24] w) ∧
  (∀ (scr : pX) (w : pW) (x1 : Int32) (x2 : Int32) (x3 : Int32) (s0 : Int32) (s1 : Int32), p_ev scr 149 76 [.ref 24, .int x1, .int x2, .int x3, p_U, p_U, p_U] [.int s0, .int s1, .ref 24] w = p_ev scr 149 77 [.ref 24, .int x1, .int x2, .int x3, p_U, p_U, p_U] [.int (nI 0), .int s0, .int s1, .ref 24] w) ∧
  (∀ (scr : pX) (w : pW) (x1 : Int32) (x2 : Int32) (x3 : Int32) (s0 : Int32) (s1 : Int32) (s2 : Int32), p_ev scr 149 77 [.ref 24, .int x1, .int x2, .int x3, p_U, p_U, p_U] [.int s0, .int s1, .int s2, .ref 24] w = p_bnd scr 149 77 80 [.ref 24, .int x1, .int x2, .int x3, p_U, p_U, p_U] [] (p_ev none 144 0 [.ref 24, .int s2, .int s1, .int s0] [] w)) ∧
  (∀ (scr : pX) (w : pW) (x1 : Int32) (x2 : Int32) (x3 : Int32), p_ev scr 149 80 [.ref 24, .int x1, .int x2, .int x3, p_U, p_U, p_U] [] w = p_ev scr 149 83 [.ref 24, .int x1, .int x2, .int (x3 + (-1 : Int32)), p_U, p_U, p_U] [] w) ∧
  (∀ (scr : pX) (w : pW) (x1 : Int32) (x2 : Int32) (x3 : Int32), p_ev scr 149 83 [.ref 24, .int x1, .int x2, .int x3, p_U, p_U, p_U] [] w = p_ev scr 149 65 [.ref 24, .int x1, .int x2, .int x3, p_U, p_U, p_U] [] w) ∧
  (∀ (scr : pX) (w : pW) (x1 : Int32) (x2 : Int32) (x3 : Int32), p_ev scr 149 86 [.ref 24, .int x1, .int x2, .int x3, p_U, p_U, p_U] [] w = p_ev scr 149 87 [.ref 24, .int x1, .int x2, .int x3, p_U, p_U, p_U] [.int x2] w) ∧
  (∀ (scr : pX) (w : pW) (x1 : Int32) (x2 : Int32) (x3 : Int32) (s0 : Int32), p_ev scr 149 87 [.ref 24, .int x1, .int x2, .int x3, p_U, p_U, p_U] [.int s0] w = p_ev scr 149 88 [.ref 24, .int x1, .int x2, .int x3, p_U, p_U, p_U] [.int (nI 1), .int s0] w) ∧
  (∀ (scr : pX) (w : pW) (x1 : Int32) (x2 : Int32) (x3 : Int32) (s0 : Int32) (s1 : Int32), p_ev scr 149 88 [.ref 24, .int x1, .int x2, .int x3, p_U, p_U, p_U] [.int s0, .int s1] w = p_ev scr 149 89 [.ref 24, .int x1, .int x2, .int x3, p_U, p_U, p_U] [.int (s1 - s0)] w) ∧
  (∀ (scr : pX) (w : pW) (x1 : Int32) (x2 : Int32) (x3 : Int32) (s0 : Int32), p_ev scr 149 89 [.ref 24, .int x1, .int x2, .int x3, p_U, p_U, p_U] [.int s0] w = p_ev scr 149 90 [.ref 24, .int x1, .int x2, .int s0, p_U, p_U, p_U] [] w) ∧
  (∀ (scr : pX) (w : pW) (x1 : Int32) (x2 : Int32) (x3 : Int32) (z4 : Value) (z5 : Value) (s0 : Int32), p_ev scr 149 91 [.ref 24, .int x1, .int x2, .int x3, z4, z5, p_U] [.int s0] w = if s0 < nI 0 then p_ev scr 149 163 [.ref 24, .int x1, .int x2, .int x3, z4, z5, p_U] [] w else p_ev scr 149 94 [.ref 24, .int x1, .int x2, .int x3, z4, z5, p_U] [] w) ∧
  (∀ (scr : pX) (w : pW) (x1 : Int32) (x2 : Int32) (x3 : Int32) (z4 : Value) (z5 : Value), p_ev scr 149 94 [.ref 24, .int x1, .int x2, .int x3, z4, z5, p_U] [] w = p_ev scr 149 95 [.ref 24, .int x1, .int x2, .int x3, z4, z5, p_U] [.ref 24] w) ∧
  (∀ (scr : pX) (w : pW) (x1 : Int32) (x2 : Int32) (x3 : Int32) (z4 : Value) (z5 : Value), p_ev scr 149 95 [.ref 24, .int x1, .int x2, .int x3, z4, z5, p_U] [.ref 24] w = p_ev scr 149 96 [.ref 24, .int x1, .int x2, .int x3, z4, z5, p_U] [.int x3, .ref 24] w) ∧
  (∀ (scr : pX) (w : pW) (x1 : Int32) (x2 : Int32) (x3 : Int32) (z4 : Value) (z5 : Value) (s0 : Int32), p_ev scr 149 96 [.ref 24, .int x1, .int x2, .int x3, z4, z5, p_U] [.int s0, .ref 24] w = p_ev scr 149 97 [.ref 24, .int x1, .int x2, .int x3, z4, z5, p_U] [.int x1, .int s0, .ref 24] w) ∧
  (∀ (scr : pX) (w : pW) (x1 : Int32) (x2 : Int32) (x3 : Int32) (z4 : Value) (z5 : Value) (s0 : Int32) (s1 : Int32), p_ev scr 149 97 [.ref 24, .int x1, .int x2, .int x3, z4, z5, p_U] [.int s0, .int s1, .ref 24] w = p_bnd scr 149 97 100 [.ref 24, .int x1, .int x2, .int x3, z4, z5, p_U] [] (p_ev none 148 0 [.ref 24, .int s1, .int s0, p_U, p_U, p_U, p_U, p_U] [] w)) ∧
  (∀ (scr : pX) (w : pW) (x1 : Int32) (x2 : Int32) (x3 : Int32) (z4 : Value) (z5 : Value), p_ev scr 149 100 [.ref 24, .int x1, .int x2, .int x3, z4, z5, p_U] [] w = p_ev scr 149 101 [.ref 24, .int x1, .int x2, .int x3, z4, z5, p_U] [.int (nI 0)] w) ∧
  (∀ (scr : pX) (w : pW) (x1 : Int32) (x2 : Int32) (x3 : Int32) (z4 : Value) (z5 : Value) (s0 : Int32), p_ev scr 149 101 [.ref 24, .int x1, .int x2, .int x3, z4, z5, p_U] [.int s0] w = p_ev scr 149 103 [.ref 24, .int x1, .int x2, .int x3, .int s0, z5, p_U] [] w) ∧
  (∀ (scr : pX) (w : pW) (x1 : Int32) (x2 : Int32) (x3 : Int32) (x4 : Int32) (z5 : Value) (s0 : Int32), p_ev scr 149 105 [.ref 24, .int x1, .int x2, .int x3, .int x4, z5, p_U] [.int s0] w = p_ev scr 149 106 [.ref 24, .int x1, .int x2, .int x3, .int x4, z5, p_U] [.ref 24, .int s0] w) ∧
  (∀ (scr : pX) (w : pW) (x1 : Int32) (x2 : Int32) (x3 : Int32) (x4 : Int32) (z5 : Value) (s1 : Int32), p_ev scr 149 106 [.ref 24, .int x1, .int x2, .int x3, .int x4, z5, p_U] [.ref 24, .int s1] w = p_ev scr 149 109 [.ref 24, .int x1, .int x2, .int x3, .int x4, z5, p_U] [.int (w.1 24 2), .int s1] w) ∧
  (∀ (scr : pX) (w : pW) (x1 : Int32) (x2 : Int32) (x3 : Int32) (x4 : Int32) (z5 : Value) (s0 : Int32) (s1 : Int32), p_ev scr 149 109 [.ref 24, .int x1, .int x2, .int x3, .int x4, z5, p_U] [.int s0, .int s1] w = if s0 ≤ s1 then p_ev scr 149 157 [.ref 24, .int x1, .int x2, .int x3, .int x4, z5, p_U] [] w else p_ev scr 149 112 [.ref 24, .int x1, .int x2, .int x3, .int x4, z5, p_U] [] w) ∧
  (∀ (scr : pX) (w : pW) (x1 : Int32) (x2 : Int32) (x3 : Int32) (x4 : Int32) (z5 : Value), p_ev scr 149 112 [.ref 24, .int x1, .int x2, .int x3, .int x4, z5, p_U] [] w = p_ev scr 149 113 [.ref 24, .int x1, .int x2, .int x3, .int x4, z5, p_U] [.ref 24] w) ∧
  (∀ (scr : pX) (w : pW) (x1 : Int32) (x2 : Int32) (x3 : Int32) (x4 : Int32) (z5 : Value), p_ev scr 149 113 [.ref 24, .int x1, .int x2, .int x3, .int x4, z5, p_U] [.ref 24] w = p_ev scr 149 116 [.ref 24, .int x1, .int x2, .int x3, .int x4, z5, p_U] [.ref 32] w) ∧
  (∀ (scr : pX) (w : pW) (x1 : Int32) (x2 : Int32) (x3 : Int32) (x4 : Int32) (z5 : Value), p_ev scr 149 116 [.ref 24, .int x1, .int x2, .int x3, .int x4, z5, p_U] [.ref 32] w = p_ev scr 149 118 [.ref 24, .int x1, .int x2, .int x3, .int x4, z5, p_U] [.int x4, .ref 32] w) ∧
  (∀ (scr : pX) (w : pW) (x1 : Int32) (x2 : Int32) (x3 : Int32) (x4 : Int32) (z5 : Value) (s0 : Int32), p_out s0 32 = false → p_ev scr 149 118 [.ref 24, .int x1, .int x2, .int x3, .int x4, z5, p_U] [.int s0, .ref 32] w = p_ev scr 149 119 [.ref 24, .int x1, .int x2, .int x3, .int x4, z5, p_U] [.long (w.2.1 32 s0.toNatClampNeg)] w) ∧
  (∀ (scr : pX) (w : pW) (x1 : Int32) (x2 : Int32) (x3 : Int32) (x4 : Int32) (z5 : Value) (t0 : Int64), p_ev scr 149 119 [.ref 24, .int x1, .int x2, .int x3, .int x4, z5, p_U] [.long t0] w = p_bnd scr 149 119 122 [.ref 24, .int x1, .int x2, .int x3, .int x4, z5, p_U] [] (p_ev none 98 0 [.long t0, p_U] [] w)) ∧
  (∀ (scr : pX) (w : pW) (x1 : Int32) (x2 : Int32) (x3 : Int32) (x4 : Int32) (z5 : Value) (t0 : Int64), p_ev scr 149 122 [.ref 24, .int x1, .int x2, .int x3, .int x4, z5, p_U] [.long t0] w = p_ev scr 149 124 [.ref 24, .int x1, .int x2, .int x3, .int x4, .long t0, p_U] [] w) ∧
  (∀ (scr : pX) (w : pW) (x1 : Int32) (x2 : Int32) (x3 : Int32) (x4 : Int32) (y5 : Int64), p_ev scr 149 124 [.ref 24, .int x1, .int x2, .int x3, .int x4, .long y5, p_U] [] w = p_ev scr 149 126 [.ref 24, .int x1, .int x2, .int x3, .int x4, .long y5, p_U] [.long y5] w) ∧
  (∀ (scr : pX) (w : pW) (x1 : Int32) (x2 : Int32) (x3 : Int32) (x4 : Int32) (y5 : Int64) (t0 : Int64), p_ev scr 149 126 [.ref 24, .int x1, .int x2, .int x3, .int x4, .long y5, p_U] [.long t0] w = p_ev scr 149 127 [.ref 24, .int x1, .int x2, .int x3, .int x4, .long y5, p_U] [.int x3, .long t0] w) ∧
  (∀ (scr : pX) (w : pW) (x1 : Int32) (x2 : Int32) (x3 : Int32) (x4 : Int32) (y5 : Int64) (s0 : Int32) (t1 : Int64), p_ev scr 149 127 [.ref 24, .int x1, .int x2, .int x3, .int x4, .long y5, p_U] [.int s0, .long t1] w = p_ev scr 149 128 [.ref 24, .int x1, .int x2, .int x3, .int x4, .long y5, p_U] [.long (t1 >>> (s0.toInt64 &&& 63))] w) ∧
  (∀ (scr : pX) (w : pW) (x1 : Int32) (x2 : Int32) (x3 : Int32) (x4 : Int32) (y5 : Int64) (t0 : Int64), p_ev scr 149 128 [.ref 24, .int x1, .int x2, .int x3, .int x4, .long y5, p_U] [.long t0] w = p_ev scr 149 129 [.ref 24, .int x1, .int x2, .int x3, .int x4, .long y5, p_U] [.long (lN 1), .long t0] w) ∧
  (∀ (scr : pX) (w : pW) (x1 : Int32) (x2 : Int32) (x3 : Int32) (x4 : Int32) (y5 : Int64) (t0 : Int64) (t1 : Int64), p_ev scr 149 129 [.ref 24, .int x1, .int x2, .int x3, .int x4, .long y5, p_U] [.long t0, .long t1] w = p_ev scr 149 130 [.ref 24, .int x1, .int x2, .int x3, .int x4, .long y5, p_U] [.int (lg_cmp t1 t0)] w) ∧
  (∀ (scr : pX) (w : pW) (x1 : Int32) (x2 : Int32) (x3 : Int32) (x4 : Int32) (y5 : Int64) (s0 : Int32), p_ev scr 149 130 [.ref 24, .int x1, .int x2, .int x3, .int x4, .long y5, p_U] [.int s0] w = if s0 ≤ nI 0 then p_ev scr 149 151 [.ref 24, .int x1, .int x2, .int x3, .int x4, .long y5, p_U] [] w else p_ev scr 149 133 [.ref 24, .int x1, .int x2, .int x3, .int x4, .long y5, p_U] [] w) ∧
  (∀ (scr : pX) (w : pW) (x1 : Int32) (x2 : Int32) (x3 : Int32) (x4 : Int32) (y5 : Int64), p_ev scr 149 133 [.ref 24, .int x1, .int x2, .int x3, .int x4, .long y5, p_U] [] w = p_ev scr 149 134 [.ref 24, .int x1, .int x2, .int x3, .int x4, .long y5, p_U] [.ref 24] w) ∧
  (∀ (scr : pX) (w : pW) (x1 : Int32) (x2 : Int32) (x3 : Int32) (x4 : Int32) (y5 : Int64), p_ev scr 149 134 [.ref 24, .int x1, .int x2, .int x3, .int x4, .long y5, p_U] [.ref 24] w = p_ev scr 149 136 [.ref 24, .int x1, .int x2, .int x3, .int x4, .long y5, p_U] [.long y5, .ref 24] w) ∧
  (∀ (scr : pX) (w : pW) (x1 : Int32) (x2 : Int32) (x3 : Int32) (x4 : Int32) (y5 : Int64) (t0 : Int64), p_ev scr 149 136 [.ref 24, .int x1, .int x2, .int x3, .int x4, .long y5, p_U] [.long t0, .ref 24] w = p_ev scr 149 137 [.ref 24, .int x1, .int x2, .int x3, .int x4, .long y5, p_U] [.int x3, .long t0, .ref 24] w) ∧
  (∀ (scr : pX) (w : pW) (x1 : Int32) (x2 : Int32) (x3 : Int32) (x4 : Int32) (y5 : Int64) (s0 : Int32) (t1 : Int64), p_ev scr 149 137 [.ref 24, .int x1, .int x2, .int x3, .int x4, .long y5, p_U] [.int s0, .long t1, .ref 24] w = p_ev scr 149 138 [.ref 24, .int x1, .int x2, .int x3, .int x4, .long y5, p_U] [.long (t1 >>> (s0.toInt64 &&& 63)), .ref 24] w) ∧
  (∀ (scr : pX) (w : pW) (x1 : Int32) (x2 : Int32) (x3 : Int32) (x4 : Int32) (y5 : Int64) (t0 : Int64), p_ev scr 149 138 [.ref 24, .int x1, .int x2, .int x3, .int x4, .long y5, p_U] [.long t0, .ref 24] w = p_ev scr 149 139 [.ref 24, .int x1, .int x2, .int x3, .int x4, .long y5, p_U] [.long (lN 1), .long t0, .ref 24] w) ∧
  (∀ (scr : pX) (w : pW) (x1 : Int32) (x2 : Int32) (x3 : Int32) (x4 : Int32) (y5 : Int64) (t0 : Int64) (t1 : Int64), p_ev scr 149 139 [.ref 24, .int x1, .int x2, .int x3, .int x4, .long y5, p_U] [.long t0, .long t1, .ref 24] w = p_ev scr 149 140 [.ref 24, .int x1, .int x2, .int x3, .int x4, .long y5, p_U] [.long (t1 &&& t0), .ref 24] w) ∧
  (∀ (scr : pX) (w : pW) (x1 : Int32) (x2 : Int32) (x3 : Int32) (x4 : Int32) (y5 : Int64) (t0 : Int64), p_ev scr 149 140 [.ref 24, .int x1, .int x2, .int x3, .int x4, .long y5, p_U] [.long t0, .ref 24] w = p_ev scr 149 141 [.ref 24, .int x1, .int x2, .int x3, .int x4, .long y5, p_U] [.int t0.toInt32, .ref 24] w) ∧
  (∀ (scr : pX) (w : pW) (x1 : Int32) (x2 : Int32) (x3 : Int32) (x4 : Int32) (y5 : Int64) (s0 : Int32), p_ev scr 149 141 [.ref 24, .int x1, .int x2, .int x3, .int x4, .long y5, p_U] [.int s0, .ref 24] w = p_ev scr 149 143 [.ref 24, .int x1, .int x2, .int x3, .int x4, .long y5, p_U] [.int x4, .int s0, .ref 24] w) ∧
  (∀ (scr : pX) (w : pW) (x1 : Int32) (x2 : Int32) (x3 : Int32) (x4 : Int32) (y5 : Int64) (s0 : Int32) (s1 : Int32), p_ev scr 149 143 [.ref 24, .int x1, .int x2, .int x3, .int x4, .long y5, p_U] [.int s0, .int s1, .ref 24] w = p_ev scr 149 146 [.ref 24, .int x1, .int x2, .int x3, .int x4, .long y5, p_U] [.int (nI 192), .int s0, .int s1, .ref 24] w) ∧
  (∀ (scr : pX) (w : pW) (x1 : Int32) (x2 : Int32) (x3 : Int32) (x4 : Int32) (y5 : Int64) (s0 : Int32) (s1 : Int32) (s2 : Int32), p_ev scr 149 146 [.ref 24, .int x1, .int x2, .int x3, .int x4, .long y5, p_U] [.int s0, .int s1, .int s2, .ref 24] w = p_ev scr 149 147 [.ref 24, .int x1, .int x2, .int x3, .int x4, .long y5, p_U] [.int x3, .int s0, .int s1, .int s2, .ref 24] w) ∧
  (∀ (scr : pX) (w : pW) (x1 : Int32) (x2 : Int32) (x3 : Int32) (x4 : Int32) (y5 : Int64) (s0 : Int32) (s1 : Int32) (s2 : Int32) (s3 : Int32), p_ev scr 149 147 [.ref 24, .int x1, .int x2, .int x3, .int x4, .long y5, p_U] [.int s0, .int s1, .int s2, .int s3, .ref 24] w = p_ev scr 149 148 [.ref 24, .int x1, .int x2, .int x3, .int x4, .long y5, p_U] [.int (s1 + s0), .int s2, .int s3, .ref 24] w) ∧
  (∀ (scr : pX) (w : pW) (x1 : Int32) (x2 : Int32) (x3 : Int32) (x4 : Int32) (y5 : Int64) (s0 : Int32) (s1 : Int32) (s2 : Int32), p_ev scr 149 148 [.ref 24, .int x1, .int x2, .int x3, .int x4, .long y5, p_U] [.int s0, .int s1, .int s2, .ref 24] w = p_bnd scr 149 148 151 [.ref 24, .int x1, .int x2, .int x3, .int x4, .long y5, p_U] [] (p_ev none 144 0 [.ref 24, .int s2, .int s1, .int s0] [] w)) ∧
  (∀ (scr : pX) (w : pW) (x1 : Int32) (x2 : Int32) (x3 : Int32) (x4 : Int32) (y5 : Int64), p_ev scr 149 151 [.ref 24, .int x1, .int x2, .int x3, .int x4, .long y5, p_U] [] w = p_ev scr 149 154 [.ref 24, .int x1, .int x2, .int x3, .int (x4 + (nI 1)), .long y5, p_U] [] w) ∧
  (∀ (scr : pX) (w : pW) (x1 : Int32) (x2 : Int32) (x3 : Int32) (x4 : Int32) (y5 : Int64), p_ev scr 149 154 [.ref 24, .int x1, .int x2, .int x3, .int x4, .long y5, p_U] [] w = p_ev scr 149 103 [.ref 24, .int x1, .int x2, .int x3, .int x4, .long y5, p_U] [] w) ∧
  (∀ (scr : pX) (w : pW) (x1 : Int32) (x2 : Int32) (x3 : Int32) (x4 : Int32) (z5 : Value), p_ev scr 149 157 [.ref 24, .int x1, .int x2, .int x3, .int x4, z5, p_U] [] w = p_ev scr 149 160 [.ref 24, .int x1, .int x2, .int (x3 + (-1 : Int32)), .int x4, z5, p_U] [] w) ∧
  (∀ (scr : pX) (w : pW) (x1 : Int32) (x2 : Int32) (x3 : Int32) (x4 : Int32) (z5 : Value), p_ev scr 149 160 [.ref 24, .int x1, .int x2, .int x3, .int x4, z5, p_U] [] w = p_ev scr 149 90 [.ref 24, .int x1, .int x2, .int x3, .int x4, z5, p_U] [] w) ∧
  (∀ (scr : pX) (w : pW) (x1 : Int32) (x2 : Int32) (x3 : Int32) (z4 : Value) (z5 : Value), p_ev scr 149 163 [.ref 24, .int x1, .int x2, .int x3, z4, z5, p_U] [] w = some (.inl none, w, 0)) :=
  ⟨fun _ _ => p_r (by decide +kernel : p_at 149 0 = some (.aload_n 0)) rfl,
  fun _ _ => p_rcv (nl := 4) (by decide +kernel : p_at 149 1 = some (.invokevirtual 201)) (by decide +kernel : p_inv (p_own 149) 201 = some (1, 143, 1)) (by decide +kernel) (rfl : p_ob 24 = some (.inr (5, [some 25, some 26, none, none, none, some 27, some 28, some 29, some 30, some 31, some 32, some 33, some 34, some 35, some 36, some 37, some 38, some 39, none, none, some 40]))) rfl rfl (Nat.le_of_ble_eq_true rfl) (Nat.le_of_ble_eq_true rfl) (Nat.le_of_ble_eq_true rfl) rfl,
  fun _ _ => p_r (by decide +kernel : p_at 149 4 = some (.aload_n 0)) rfl,
  fun _ _ => p_r (by decide +kernel : p_at 149 5 = some (.aload_n 0)) rfl,
  fun _ _ => p_rgf (f := none) (by decide +kernel : p_at 149 6 = some (.getfield 179)) (by decide +kernel : p_fld (p_own 149) 179 = some (5, 19)) (rfl : p_ob 24 = some (.inr (5, [some 25, some 26, none, none, none, some 27, some 28, some 29, some 30, some 31, some 32, some 33, some 34, some 35, some 36, some 37, some 38, some 39, none, none, some 40]))) rfl,
  fun _ _ _ => p_rcv (nl := 4) (by decide +kernel : p_at 149 9 = some (.invokevirtual 113)) (by decide +kernel : p_inv (p_own 149) 113 = some (1, 101, 2)) (by decide +kernel) (rfl : p_ob 24 = some (.inr (5, [some 25, some 26, none, none, none, some 27, some 28, some 29, some 30, some 31, some 32, some 33, some 34, some 35, some 36, some 37, some 38, some 39, none, none, some 40]))) rfl rfl (Nat.le_of_ble_eq_true rfl) (Nat.le_of_ble_eq_true rfl) (Nat.le_of_ble_eq_true rfl) rfl,
  fun _ _ _ => p_r (by decide +kernel : p_at 149 12 = some (.istore_n 1)) rfl,
  fun _ _ _ => p_r (by decide +kernel : p_at 149 13 = some (.iconst 0)) rfl,
  fun _ _ _ _ => p_r (by decide +kernel : p_at 149 14 = some (.istore_n 2)) rfl,
  fun _ _ _ _ => p_r (by decide +kernel : p_at 149 15 = some (.iconst 0)) rfl,
  fun _ _ _ _ _ => p_r (by decide +kernel : p_at 149 16 = some (.istore_n 3)) rfl,
  fun _ _ _ _ _ _ => p_r (by decide +kernel : p_at 149 18 = some (.aload_n 0)) rfl,
  fun _ _ _ _ _ _ => p_rgf (f := none) (by decide +kernel : p_at 149 19 = some (.getfield 17)) (by decide +kernel : p_fld (p_own 149) 17 = some (5, 2)) (rfl : p_ob 24 = some (.inr (5, [some 25, some 26, none, none, none, some 27, some 28, some 29, some 30, some 31, some 32, some 33, some 34, some 35, some 36, some 37, some 38, some 39, none, none, some 40]))) rfl,
  fun _ _ _ _ _ _ _ => p_rb2 (c := fun x y => decide (y ≤ x)) (off := 36) (by decide +kernel : p_at 149 22 = some (.if_icmp .ge 36)) (by decide +kernel) rfl rfl rfl,
  fun _ _ _ _ _ => p_r (by decide +kernel : p_at 149 25 = some (.aload_n 0)) rfl,
  fun _ _ _ _ _ => p_rgf (f := some 32) (by decide +kernel : p_at 149 26 = some (.getfield 36)) (by decide +kernel : p_fld (p_own 149) 36 = some (5, 10)) (rfl : p_ob 24 = some (.inr (5, [some 25, some 26, none, none, none, some 27, some 28, some 29, some 30, some 31, some 32, some 33, some 34, some 35, some 36, some 37, some 38, some 39, none, none, some 40]))) rfl,
  fun _ _ _ _ _ => p_r (by decide +kernel : p_at 149 29 = some (.iload_n 3)) rfl,
  fun _ _ _ _ _ _ hp => p_rlald (by decide +kernel : p_at 149 30 = some (.laload)) (rfl : p_ob 32 = some (.inl (2, 32))) hp,
  fun _ _ _ _ _ _ => p_rcs (nl := 5) (by decide +kernel : p_at 149 31 = some (.invokestatic 149)) (by decide +kernel : p_inv (p_own 149) 149 = some (1, 100, 1)) (by decide +kernel) rfl rfl (Nat.le_of_ble_eq_true rfl) (Nat.le_of_ble_eq_true rfl) (Nat.le_of_ble_eq_true rfl) rfl,
  fun _ _ _ _ _ _ => p_r (by decide +kernel : p_at 149 34 = some (.iload_n 2)) rfl,
  fun _ _ _ _ _ _ _ => p_rb2 (c := fun x y => decide (x ≤ y)) (off := 15) (by decide +kernel : p_at 149 35 = some (.if_icmp .le 15)) (by decide +kernel) rfl rfl rfl,
  fun _ _ _ _ _ => p_r (by decide +kernel : p_at 149 38 = some (.aload_n 0)) rfl,
  fun _ _ _ _ _ => p_rgf (f := some 32) (by decide +kernel : p_at 149 39 = some (.getfield 36)) (by decide +kernel : p_fld (p_own 149) 36 = some (5, 10)) (rfl : p_ob 24 = some (.inr (5, [some 25, some 26, none, none, none, some 27, some 28, some 29, some 30, some 31, some 32, some 33, some 34, some 35, some 36, some 37, some 38, some 39, none, none, some 40]))) rfl,
  fun _ _ _ _ _ => p_r (by decide +kernel : p_at 149 42 = some (.iload_n 3)) rfl,
  fun _ _ _ _ _ _ hp => p_rlald (by decide +kernel : p_at 149 43 = some (.laload)) (rfl : p_ob 32 = some (.inl (2, 32))) hp,
  fun _ _ _ _ _ _ => p_rcs (nl := 5) (by decide +kernel : p_at 149 44 = some (.invokestatic 149)) (by decide +kernel : p_inv (p_own 149) 149 = some (1, 100, 1)) (by decide +kernel) rfl rfl (Nat.le_of_ble_eq_true rfl) (Nat.le_of_ble_eq_true rfl) (Nat.le_of_ble_eq_true rfl) rfl,
  fun _ _ _ _ _ _ => p_rgo (by decide +kernel : p_at 149 47 = some (.goto 4)) (by decide +kernel),
  fun _ _ _ _ _ => p_r (by decide +kernel : p_at 149 50 = some (.iload_n 2)) rfl,
  fun _ _ _ _ _ _ => p_r (by decide +kernel : p_at 149 51 = some (.istore_n 2)) rfl,
  fun _ _ _ _ _ => p_r (by decide +kernel : p_at 149 52 = some (.iinc 3 1)) rfl,
  fun _ _ _ _ _ => p_rgo (by decide +kernel : p_at 149 55 = some (.goto (-38))) (by decide +kernel),
  fun _ _ _ _ _ => p_r (by decide +kernel : p_at 149 58 = some (.aload_n 0)) rfl,
  fun _ _ _ _ _ => p_r (by decide +kernel : p_at 149 59 = some (.iconst 0)) rfl,
  fun _ _ _ _ _ _ => p_rpf (by decide +kernel : p_at 149 60 = some (.putfield 186)) (by decide +kernel : p_fld (p_own 149) 186 = some (5, 18)) (rfl : p_ob 24 = some (.inr (5, [some 25, some 26, none, none, none, some 27, some 28, some 29, some 30, some 31, some 32, some 33, some 34, some 35, some 36, some 37, some 38, some 39, none, none, some 40]))) rfl,
  fun _ _ _ _ _ => p_r (by decide +kernel : p_at 149 63 = some (.iconst 5)) rfl,
  fun _ _ _ _ _ _ => p_r (by decide +kernel : p_at 149 64 = some (.istore_n 3)) rfl,
  fun _ _ _ _ _ _ => p_rb1 (c := fun x => decide (x < 0)) (off := 20) (by decide +kernel : p_at 149 66 = some (.ifCond .lt 20)) (by decide +kernel) rfl rfl rfl,
  fun _ _ _ _ _ => p_r (by decide +kernel : p_at 149 69 = some (.aload_n 0)) rfl,
  fun _ _ _ _ _ => p_r (by decide +kernel : p_at 149 70 = some (.iload_n 2)) rfl,
  fun _ _ _ _ _ _ => p_r (by decide +kernel : p_at 149 71 = some (.iload_n 3)) rfl,
  fun _ _ _ _ _ _ _ => p_r (by decide +kernel : p_at 149 72 = some (.ishr)) rfl,
  fun _ _ _ _ _ _ => p_r (by decide +kernel : p_at 149 73 = some (.iconst 1)) rfl,
  fun _ _ _ _ _ _ _ => p_r (by decide +kernel : p_at 149 74 = some (.iand)) rfl,
  fun _ _ _ _ _ _ => p_r (by decide +kernel : p_at 149 75 = some (.iconst 0)) rfl,
  fun _ _ _ _ _ _ _ => p_r (by decide +kernel : p_at 149 76 = some (.iconst 0)) rfl,
  fun _ _ _ _ _ _ _ _ => p_rcv (nl := 4) (by decide +kernel : p_at 149 77 = some (.invokevirtual 192)) (by decide +kernel : p_inv (p_own 149) 192 = some (1, 144, 4)) (by decide +kernel) (rfl : p_ob 24 = some (.inr (5, [some 25, some 26, none, none, none, some 27, some 28, some 29, some 30, some 31, some 32, some 33, some 34, some 35, some 36, some 37, some 38, some 39, none, none, some 40]))) rfl rfl (Nat.le_of_ble_eq_true rfl) (Nat.le_of_ble_eq_true rfl) (Nat.le_of_ble_eq_true rfl) rfl,
  fun _ _ _ _ _ => p_r (by decide +kernel : p_at 149 80 = some (.iinc 3 (-1))) rfl,
  fun _ _ _ _ _ => p_rgo (by decide +kernel : p_at 149 83 = some (.goto (-18))) (by decide +kernel),
  fun _ _ _ _ _ => p_r (by decide +kernel : p_at 149 86 = some (.iload_n 2)) rfl,
  fun _ _ _ _ _ _ => p_r (by decide +kernel : p_at 149 87 = some (.iconst 1)) rfl,
  fun _ _ _ _ _ _ _ => p_r (by decide +kernel : p_at 149 88 = some (.isub)) rfl,
  fun _ _ _ _ _ _ => p_r (by decide +kernel : p_at 149 89 = some (.istore_n 3)) rfl,
  fun _ _ _ _ _ _ _ _ => p_rb1 (c := fun x => decide (x < 0)) (off := 72) (by decide +kernel : p_at 149 91 = some (.ifCond .lt 72)) (by decide +kernel) rfl rfl rfl,
  fun _ _ _ _ _ _ _ => p_r (by decide +kernel : p_at 149 94 = some (.aload_n 0)) rfl,
  fun _ _ _ _ _ _ _ => p_r (by decide +kernel : p_at 149 95 = some (.iload_n 3)) rfl,
  fun _ _ _ _ _ _ _ _ => p_r (by decide +kernel : p_at 149 96 = some (.iload_n 1)) rfl,
  fun _ _ _ _ _ _ _ _ _ => p_rcv (nl := 8) (by decide +kernel : p_at 149 97 = some (.invokevirtual 204)) (by decide +kernel : p_inv (p_own 149) 204 = some (1, 148, 3)) (by decide +kernel) (rfl : p_ob 24 = some (.inr (5, [some 25, some 26, none, none, none, some 27, some 28, some 29, some 30, some 31, some 32, some 33, some 34, some 35, some 36, some 37, some 38, some 39, none, none, some 40]))) rfl rfl (Nat.le_of_ble_eq_true rfl) (Nat.le_of_ble_eq_true rfl) (Nat.le_of_ble_eq_true rfl) rfl,
  fun _ _ _ _ _ _ _ => p_r (by decide +kernel : p_at 149 100 = some (.iconst 0)) rfl,
  fun _ _ _ _ _ _ _ _ => p_r (by decide +kernel : p_at 149 101 = some (.istore 4)) rfl,
  fun _ _ _ _ _ _ _ _ => p_r (by decide +kernel : p_at 149 105 = some (.aload_n 0)) rfl,
  fun _ _ _ _ _ _ _ _ => p_rgf (f := none) (by decide +kernel : p_at 149 106 = some (.getfield 17)) (by decide +kernel : p_fld (p_own 149) 17 = some (5, 2)) (rfl : p_ob 24 = some (.inr (5, [some 25, some 26, none, none, none, some 27, some 28, some 29, some 30, some 31, some 32, some 33, some 34, some 35, some 36, some 37, some 38, some 39, none, none, some 40]))) rfl,
  fun _ _ _ _ _ _ _ _ _ => p_rb2 (c := fun x y => decide (y ≤ x)) (off := 48) (by decide +kernel : p_at 149 109 = some (.if_icmp .ge 48)) (by decide +kernel) rfl rfl rfl,
  fun _ _ _ _ _ _ _ => p_r (by decide +kernel : p_at 149 112 = some (.aload_n 0)) rfl,
  fun _ _ _ _ _ _ _ => p_rgf (f := some 32) (by decide +kernel : p_at 149 113 = some (.getfield 36)) (by decide +kernel : p_fld (p_own 149) 36 = some (5, 10)) (rfl : p_ob 24 = some (.inr (5, [some 25, some 26, none, none, none, some 27, some 28, some 29, some 30, some 31, some 32, some 33, some 34, some 35, some 36, some 37, some 38, some 39, none, none, some 40]))) rfl,
  fun _ _ _ _ _ _ _ => p_r (by decide +kernel : p_at 149 116 = some (.iload 4)) rfl,
  fun _ _ _ _ _ _ _ _ hp => p_rlald (by decide +kernel : p_at 149 118 = some (.laload)) (rfl : p_ob 32 = some (.inl (2, 32))) hp,
  fun _ _ _ _ _ _ _ _ => p_rcs (nl := 2) (by decide +kernel : p_at 149 119 = some (.invokestatic 66)) (by decide +kernel : p_inv (p_own 149) 66 = some (1, 98, 1)) (by decide +kernel) rfl rfl (Nat.le_of_ble_eq_true rfl) (Nat.le_of_ble_eq_true rfl) (Nat.le_of_ble_eq_true rfl) rfl,
  fun _ _ _ _ _ _ _ _ => p_r (by decide +kernel : p_at 149 122 = some (.lstore 5)) rfl,
  fun _ _ _ _ _ _ _ => p_r (by decide +kernel : p_at 149 124 = some (.lload 5)) rfl,
  fun _ _ _ _ _ _ _ _ => p_r (by decide +kernel : p_at 149 126 = some (.iload_n 3)) rfl,
  fun _ _ _ _ _ _ _ _ _ => p_r (by decide +kernel : p_at 149 127 = some (.lshr)) rfl,
  fun _ _ _ _ _ _ _ _ => p_r (by decide +kernel : p_at 149 128 = some (.lconst 1)) rfl,
  fun _ _ _ _ _ _ _ _ _ => p_r (by decide +kernel : p_at 149 129 = some (.lcmp)) rfl,
  fun _ _ _ _ _ _ _ _ => p_rb1 (c := fun x => decide (x ≤ 0)) (off := 21) (by decide +kernel : p_at 149 130 = some (.ifCond .le 21)) (by decide +kernel) rfl rfl rfl,
  fun _ _ _ _ _ _ _ => p_r (by decide +kernel : p_at 149 133 = some (.aload_n 0)) rfl,
  fun _ _ _ _ _ _ _ => p_r (by decide +kernel : p_at 149 134 = some (.lload 5)) rfl,
  fun _ _ _ _ _ _ _ _ => p_r (by decide +kernel : p_at 149 136 = some (.iload_n 3)) rfl,
  fun _ _ _ _ _ _ _ _ _ => p_r (by decide +kernel : p_at 149 137 = some (.lshr)) rfl,
  fun _ _ _ _ _ _ _ _ => p_r (by decide +kernel : p_at 149 138 = some (.lconst 1)) rfl,
  fun _ _ _ _ _ _ _ _ _ => p_r (by decide +kernel : p_at 149 139 = some (.land)) rfl,
  fun _ _ _ _ _ _ _ _ => p_r (by decide +kernel : p_at 149 140 = some (.l2i)) rfl,
  fun _ _ _ _ _ _ _ _ => p_r (by decide +kernel : p_at 149 141 = some (.iload 4)) rfl,
  fun _ _ _ _ _ _ _ _ _ => p_r (by decide +kernel : p_at 149 143 = some (.sipush 192)) rfl,
  fun _ _ _ _ _ _ _ _ _ _ => p_r (by decide +kernel : p_at 149 146 = some (.iload_n 3)) rfl,
  fun _ _ _ _ _ _ _ _ _ _ _ => p_r (by decide +kernel : p_at 149 147 = some (.iadd)) rfl,
  fun _ _ _ _ _ _ _ _ _ _ => p_rcv (nl := 4) (by decide +kernel : p_at 149 148 = some (.invokevirtual 192)) (by decide +kernel : p_inv (p_own 149) 192 = some (1, 144, 4)) (by decide +kernel) (rfl : p_ob 24 = some (.inr (5, [some 25, some 26, none, none, none, some 27, some 28, some 29, some 30, some 31, some 32, some 33, some 34, some 35, some 36, some 37, some 38, some 39, none, none, some 40]))) rfl rfl (Nat.le_of_ble_eq_true rfl) (Nat.le_of_ble_eq_true rfl) (Nat.le_of_ble_eq_true rfl) rfl,
  fun _ _ _ _ _ _ _ => p_r (by decide +kernel : p_at 149 151 = some (.iinc 4 1)) rfl,
  fun _ _ _ _ _ _ _ => p_rgo (by decide +kernel : p_at 149 154 = some (.goto (-51))) (by decide +kernel),
  fun _ _ _ _ _ _ _ => p_r (by decide +kernel : p_at 149 157 = some (.iinc 3 (-1))) rfl,
  fun _ _ _ _ _ _ _ => p_rgo (by decide +kernel : p_at 149 160 = some (.goto (-70))) (by decide +kernel),
  fun _ _ _ _ _ _ _ => p_rvret (by decide +kernel : p_at 149 163 = some (.return_)) (by decide +kernel)⟩
theorem H149_17 :
  (∀ (scr : pX) (w : pW) (x1 : Int32) (x2 : Int32) (x3 : Int32), p_ev scr 149 17 [.ref 24, .int x1, .int x2, .int x3, p_U, p_U, p_U] [] w = p_ev scr 149 18 [.ref 24, .int x1, .int x2, .int x3, p_U, p_U, p_U] [.int x3] w) :=
  fun _ _ _ _ _ => p_r (by decide +kernel : p_at 149 17 = some (.iload_n 3)) rfl
theorem H149_65 :
  (∀ (scr : pX) (w : pW) (x1 : Int32) (x2 : Int32) (x3 : Int32), p_ev scr 149 65 [.ref 24, .int x1, .int x2, .int x3, p_U, p_U, p_U] [] w = p_ev scr 149 66 [.ref 24, .int x1, .int x2, .int x3, p_U, p_U, p_U] [.int x3] w) :=
  fun _ _ _ _ _ => p_r (by decide +kernel : p_at 149 65 = some (.iload_n 3)) rfl
theorem H149_90 :
  (∀ (scr : pX) (w : pW) (x1 : Int32) (x2 : Int32) (x3 : Int32) (z4 : Value) (z5 : Value), p_ev scr 149 90 [.ref 24, .int x1, .int x2, .int x3, z4, z5, p_U] [] w = p_ev scr 149 91 [.ref 24, .int x1, .int x2, .int x3, z4, z5, p_U] [.int x3] w) :=
  fun _ _ _ _ _ _ _ => p_r (by decide +kernel : p_at 149 90 = some (.iload_n 3)) rfl
theorem H149_103 :
  (∀ (scr : pX) (w : pW) (x1 : Int32) (x2 : Int32) (x3 : Int32) (x4 : Int32) (z5 : Value), p_ev scr 149 103 [.ref 24, .int x1, .int x2, .int x3, .int x4, z5, p_U] [] w = p_ev scr 149 105 [.ref 24, .int x1, .int x2, .int x3, .int x4, z5, p_U] [.int x4] w) :=
  fun _ _ _ _ _ _ _ => p_r (by decide +kernel : p_at 149 103 = some (.iload 4)) rfl
-- 150: forget
theorem M150 :
  (∀ (scr : pX) (w : pW), p_ev scr 150 0 [.ref 24, p_U] [] w = p_ev scr 150 1 [.ref 24, p_U] [.int (nI 0)] w) ∧
  (∀ (scr : pX) (w : pW) (s0 : Int32), p_ev scr 150 1 [.ref 24, p_U] [.int s0] w = p_ev scr 150 2 [.ref 24, .int s0] [] w) ∧
  (∀ (scr : pX) (w : pW) (x1 : Int32) (s0 : Int32), p_ev scr 150 3 [.ref 24, .int x1] [.int s0] w = p_ev scr 150 4 [.ref 24, .int x1] [.ref 24, .int s0] w) ∧
  (∀ (scr : pX) (w : pW) (x1 : Int32) (s1 : Int32), p_ev scr 150 4 [.ref 24, .int x1] [.ref 24, .int s1] w = p_ev scr 150 7 [.ref 24, .int x1] [.int (w.1 24 2), .int s1] w) ∧
  (∀ (scr : pX) (w : pW) (x1 : Int32) (s0 : Int32) (s1 : Int32), p_ev scr 150 7 [.ref 24, .int x1] [.int s0, .int s1] w = if s0 ≤ s1 then p_ev scr 150 37 [.ref 24, .int x1] [] w else p_ev scr 150 10 [.ref 24, .int x1] [] w) ∧
  (∀ (scr : pX) (w : pW) (x1 : Int32), p_ev scr 150 10 [.ref 24, .int x1] [] w = p_ev scr 150 11 [.ref 24, .int x1] [.ref 24] w) ∧
  (∀ (scr : pX) (w : pW) (x1 : Int32), p_ev scr 150 11 [.ref 24, .int x1] [.ref 24] w = p_ev scr 150 14 [.ref 24, .int x1] [.ref 37] w) ∧
  (∀ (scr : pX) (w : pW) (x1 : Int32), p_ev scr 150 14 [.ref 24, .int x1] [.ref 37] w = p_ev scr 150 15 [.ref 24, .int x1] [.int x1, .ref 37] w) ∧
  (∀ (scr : pX) (w : pW) (x1 : Int32) (s0 : Int32), p_ev scr 150 15 [.ref 24, .int x1] [.int s0, .ref 37] w = p_ev scr 150 16 [.ref 24, .int x1] [.long (lN 0), .int s0, .ref 37] w) ∧
  (∀ (scr : pX) (w : pW) (x1 : Int32) (t0 : Int64) (s1 : Int32), p_out s1 32 = false → p_ev scr 150 16 [.ref 24, .int x1] [.long t0, .int s1, .ref 37] w = p_ev scr 150 17 [.ref 24, .int x1] [] (w.1, p_u w.2.1 37 s1.toNatClampNeg t0, w.2.2)) ∧
  (∀ (scr : pX) (w : pW) (x1 : Int32), p_ev scr 150 17 [.ref 24, .int x1] [] w = p_ev scr 150 18 [.ref 24, .int x1] [.ref 24] w) ∧
  (∀ (scr : pX) (w : pW) (x1 : Int32), p_ev scr 150 18 [.ref 24, .int x1] [.ref 24] w = p_ev scr 150 21 [.ref 24, .int x1] [.ref 38] w) ∧
  (∀ (scr : pX) (w : pW) (x1 : Int32), p_ev scr 150 21 [.ref 24, .int x1] [.ref 38] w = p_ev scr 150 22 [.ref 24, .int x1] [.int x1, .ref 38] w) ∧
  (∀ (scr : pX) (w : pW) (x1 : Int32) (s0 : Int32), p_ev scr 150 22 [.ref 24, .int x1] [.int s0, .ref 38] w = p_ev scr 150 23 [.ref 24, .int x1] [.int (-1 : Int32), .int s0, .ref 38] w) ∧
  (∀ (scr : pX) (w : pW) (x1 : Int32) (s0 : Int32) (s1 : Int32), p_out s1 32 = false → p_ev scr 150 23 [.ref 24, .int x1] [.int s0, .int s1, .ref 38] w = p_ev scr 150 24 [.ref 24, .int x1] [] (w.1, w.2.1, p_u w.2.2 38 s1.toNatClampNeg s0)) ∧
  (∀ (scr : pX) (w : pW) (x1 : Int32), p_ev scr 150 24 [.ref 24, .int x1] [] w = p_ev scr 150 25 [.ref 24, .int x1] [.ref 24] w) ∧
  (∀ (scr : pX) (w : pW) (x1 : Int32), p_ev scr 150 25 [.ref 24, .int x1] [.ref 24] w = p_ev scr 150 28 [.ref 24, .int x1] [.ref 39] w) ∧
  (∀ (scr : pX) (w : pW) (x1 : Int32), p_ev scr 150 28 [.ref 24, .int x1] [.ref 39] w = p_ev scr 150 29 [.ref 24, .int x1] [.int x1, .ref 39] w) ∧
  (∀ (scr : pX) (w : pW) (x1 : Int32) (s0 : Int32), p_ev scr 150 29 [.ref 24, .int x1] [.int s0, .ref 39] w = p_ev scr 150 30 [.ref 24, .int x1] [.int (nI 0), .int s0, .ref 39] w) ∧
  (∀ (scr : pX) (w : pW) (x1 : Int32) (s0 : Int32) (s1 : Int32), p_out s1 32 = false → p_ev scr 150 30 [.ref 24, .int x1] [.int s0, .int s1, .ref 39] w = p_ev scr 150 31 [.ref 24, .int x1] [] (w.1, w.2.1, p_u w.2.2 39 s1.toNatClampNeg s0)) ∧
  (∀ (scr : pX) (w : pW) (x1 : Int32), p_ev scr 150 31 [.ref 24, .int x1] [] w = p_ev scr 150 34 [.ref 24, .int (x1 + (nI 1))] [] w) ∧
  (∀ (scr : pX) (w : pW) (x1 : Int32), p_ev scr 150 34 [.ref 24, .int x1] [] w = p_ev scr 150 2 [.ref 24, .int x1] [] w) ∧
  (∀ (scr : pX) (w : pW) (x1 : Int32), p_ev scr 150 37 [.ref 24, .int x1] [] w = some (.inl none, w, 0)) :=
  ⟨fun _ _ => p_r (by decide +kernel : p_at 150 0 = some (.iconst 0)) rfl,
  fun _ _ _ => p_r (by decide +kernel : p_at 150 1 = some (.istore_n 1)) rfl,
  fun _ _ _ _ => p_r (by decide +kernel : p_at 150 3 = some (.aload_n 0)) rfl,
  fun _ _ _ _ => p_rgf (f := none) (by decide +kernel : p_at 150 4 = some (.getfield 17)) (by decide +kernel : p_fld (p_own 150) 17 = some (5, 2)) (rfl : p_ob 24 = some (.inr (5, [some 25, some 26, none, none, none, some 27, some 28, some 29, some 30, some 31, some 32, some 33, some 34, some 35, some 36, some 37, some 38, some 39, none, none, some 40]))) rfl,
  fun _ _ _ _ _ => p_rb2 (c := fun x y => decide (y ≤ x)) (off := 30) (by decide +kernel : p_at 150 7 = some (.if_icmp .ge 30)) (by decide +kernel) rfl rfl rfl,
  fun _ _ _ => p_r (by decide +kernel : p_at 150 10 = some (.aload_n 0)) rfl,
  fun _ _ _ => p_rgf (f := some 37) (by decide +kernel : p_at 150 11 = some (.getfield 51)) (by decide +kernel : p_fld (p_own 150) 51 = some (5, 15)) (rfl : p_ob 24 = some (.inr (5, [some 25, some 26, none, none, none, some 27, some 28, some 29, some 30, some 31, some 32, some 33, some 34, some 35, some 36, some 37, some 38, some 39, none, none, some 40]))) rfl,
  fun _ _ _ => p_r (by decide +kernel : p_at 150 14 = some (.iload_n 1)) rfl,
  fun _ _ _ _ => p_r (by decide +kernel : p_at 150 15 = some (.lconst 0)) rfl,
  fun _ _ _ _ _ hp => p_rlast (by decide +kernel : p_at 150 16 = some (.lastore)) (rfl : p_ob 37 = some (.inl (2, 32))) hp,
  fun _ _ _ => p_r (by decide +kernel : p_at 150 17 = some (.aload_n 0)) rfl,
  fun _ _ _ => p_rgf (f := some 38) (by decide +kernel : p_at 150 18 = some (.getfield 54)) (by decide +kernel : p_fld (p_own 150) 54 = some (5, 16)) (rfl : p_ob 24 = some (.inr (5, [some 25, some 26, none, none, none, some 27, some 28, some 29, some 30, some 31, some 32, some 33, some 34, some 35, some 36, some 37, some 38, some 39, none, none, some 40]))) rfl,
  fun _ _ _ => p_r (by decide +kernel : p_at 150 21 = some (.iload_n 1)) rfl,
  fun _ _ _ _ => p_r (by decide +kernel : p_at 150 22 = some (.iconst (-1))) rfl,
  fun _ _ _ _ _ hp => p_riast (by decide +kernel : p_at 150 23 = some (.iastore)) (rfl : p_ob 38 = some (.inl (1, 32))) hp,
  fun _ _ _ => p_r (by decide +kernel : p_at 150 24 = some (.aload_n 0)) rfl,
  fun _ _ _ => p_rgf (f := some 39) (by decide +kernel : p_at 150 25 = some (.getfield 57)) (by decide +kernel : p_fld (p_own 150) 57 = some (5, 17)) (rfl : p_ob 24 = some (.inr (5, [some 25, some 26, none, none, none, some 27, some 28, some 29, some 30, some 31, some 32, some 33, some 34, some 35, some 36, some 37, some 38, some 39, none, none, some 40]))) rfl,
  fun _ _ _ => p_r (by decide +kernel : p_at 150 28 = some (.iload_n 1)) rfl,
  fun _ _ _ _ => p_r (by decide +kernel : p_at 150 29 = some (.iconst 0)) rfl,
  fun _ _ _ _ _ hp => p_riast (by decide +kernel : p_at 150 30 = some (.iastore)) (rfl : p_ob 39 = some (.inl (1, 32))) hp,
  fun _ _ _ => p_r (by decide +kernel : p_at 150 31 = some (.iinc 1 1)) rfl,
  fun _ _ _ => p_rgo (by decide +kernel : p_at 150 34 = some (.goto (-32))) (by decide +kernel),
  fun _ _ _ => p_rvret (by decide +kernel : p_at 150 37 = some (.return_)) (by decide +kernel)⟩
theorem H150_2 :
  (∀ (scr : pX) (w : pW) (x1 : Int32), p_ev scr 150 2 [.ref 24, .int x1] [] w = p_ev scr 150 3 [.ref 24, .int x1] [.int x1] w) :=
  fun _ _ _ => p_r (by decide +kernel : p_at 150 2 = some (.iload_n 1)) rfl
-- 151: learn
theorem M151 :
  (∀ (scr : pX) (w : pW) (x1 : Int32), p_ev scr 151 0 [.ref 24, .int x1, p_U, p_U, p_U] [] w = p_ev scr 151 1 [.ref 24, .int x1, p_U, p_U, p_U] [.ref 24] w) ∧
  (∀ (scr : pX) (w : pW) (x1 : Int32), p_ev scr 151 1 [.ref 24, .int x1, p_U, p_U, p_U] [.ref 24] w = p_ev scr 151 4 [.ref 24, .int x1, p_U, p_U, p_U] [.ref 35] w) ∧
  (∀ (scr : pX) (w : pW) (x1 : Int32), p_ev scr 151 4 [.ref 24, .int x1, p_U, p_U, p_U] [.ref 35] w = p_ev scr 151 5 [.ref 24, .int x1, p_U, p_U, p_U] [.int x1, .ref 35] w) ∧
  (∀ (scr : pX) (w : pW) (x1 : Int32) (s0 : Int32), p_out s0 4100 = false → p_ev scr 151 5 [.ref 24, .int x1, p_U, p_U, p_U] [.int s0, .ref 35] w = p_ev scr 151 6 [.ref 24, .int x1, p_U, p_U, p_U] [.int (w.2.2 35 s0.toNatClampNeg)] w) ∧
  (∀ (scr : pX) (w : pW) (x1 : Int32) (s0 : Int32), p_ev scr 151 6 [.ref 24, .int x1, p_U, p_U, p_U] [.int s0] w = p_ev scr 151 7 [.ref 24, .int x1, .int s0, p_U, p_U] [] w) ∧
  (∀ (scr : pX) (w : pW) (x1 : Int32) (x2 : Int32), p_ev scr 151 7 [.ref 24, .int x1, .int x2, p_U, p_U] [] w = p_ev scr 151 8 [.ref 24, .int x1, .int x2, p_U, p_U] [.ref 24] w) ∧
  (∀ (scr : pX) (w : pW) (x1 : Int32) (x2 : Int32), p_ev scr 151 8 [.ref 24, .int x1, .int x2, p_U, p_U] [.ref 24] w = p_ev scr 151 11 [.ref 24, .int x1, .int x2, p_U, p_U] [.ref 36] w) ∧
  (∀ (scr : pX) (w : pW) (x1 : Int32) (x2 : Int32), p_ev scr 151 11 [.ref 24, .int x1, .int x2, p_U, p_U] [.ref 36] w = p_ev scr 151 12 [.ref 24, .int x1, .int x2, p_U, p_U] [.int x1, .ref 36] w) ∧
  (∀ (scr : pX) (w : pW) (x1 : Int32) (x2 : Int32) (s0 : Int32), p_out s0 4100 = false → p_ev scr 151 12 [.ref 24, .int x1, .int x2, p_U, p_U] [.int s0, .ref 36] w = p_ev scr 151 13 [.ref 24, .int x1, .int x2, p_U, p_U] [.int (w.2.2 36 s0.toNatClampNeg)] w) ∧
  (∀ (scr : pX) (w : pW) (x1 : Int32) (x2 : Int32) (s0 : Int32), p_ev scr 151 13 [.ref 24, .int x1, .int x2, p_U, p_U] [.int s0] w = p_ev scr 151 15 [.ref 24, .int x1, .int x2, p_U, p_U] [.int (nI 64), .int s0] w) ∧
  (∀ (scr : pX) (w : pW) (x1 : Int32) (x2 : Int32) (s0 : Int32) (s1 : Int32), ¬ s0 = 0 → p_ev scr 151 15 [.ref 24, .int x1, .int x2, p_U, p_U] [.int s0, .int s1] w = p_ev scr 151 16 [.ref 24, .int x1, .int x2, p_U, p_U] [.int (s1 / s0)] w) ∧
  (∀ (scr : pX) (w : pW) (x1 : Int32) (x2 : Int32) (s0 : Int32), p_ev scr 151 16 [.ref 24, .int x1, .int x2, p_U, p_U] [.int s0] w = p_ev scr 151 17 [.ref 24, .int x1, .int x2, .int s0, p_U] [] w) ∧
  (∀ (scr : pX) (w : pW) (x1 : Int32) (x2 : Int32) (x3 : Int32), p_ev scr 151 17 [.ref 24, .int x1, .int x2, .int x3, p_U] [] w = p_ev scr 151 18 [.ref 24, .int x1, .int x2, .int x3, p_U] [.ref 24] w) ∧
  (∀ (scr : pX) (w : pW) (x1 : Int32) (x2 : Int32) (x3 : Int32), p_ev scr 151 18 [.ref 24, .int x1, .int x2, .int x3, p_U] [.ref 24] w = p_ev scr 151 21 [.ref 24, .int x1, .int x2, .int x3, p_U] [.ref 36] w) ∧
  (∀ (scr : pX) (w : pW) (x1 : Int32) (x2 : Int32) (x3 : Int32), p_ev scr 151 21 [.ref 24, .int x1, .int x2, .int x3, p_U] [.ref 36] w = p_ev scr 151 22 [.ref 24, .int x1, .int x2, .int x3, p_U] [.int x1, .ref 36] w) ∧
  (∀ (scr : pX) (w : pW) (x1 : Int32) (x2 : Int32) (x3 : Int32) (s0 : Int32), p_out s0 4100 = false → p_ev scr 151 22 [.ref 24, .int x1, .int x2, .int x3, p_U] [.int s0, .ref 36] w = p_ev scr 151 23 [.ref 24, .int x1, .int x2, .int x3, p_U] [.int (w.2.2 36 s0.toNatClampNeg)] w) ∧
  (∀ (scr : pX) (w : pW) (x1 : Int32) (x2 : Int32) (x3 : Int32) (s0 : Int32), p_ev scr 151 23 [.ref 24, .int x1, .int x2, .int x3, p_U] [.int s0] w = p_ev scr 151 25 [.ref 24, .int x1, .int x2, .int x3, p_U] [.int (nI 64), .int s0] w) ∧
  (∀ (scr : pX) (w : pW) (x1 : Int32) (x2 : Int32) (x3 : Int32) (s0 : Int32) (s1 : Int32), ¬ s0 = 0 → p_ev scr 151 25 [.ref 24, .int x1, .int x2, .int x3, p_U] [.int s0, .int s1] w = p_ev scr 151 26 [.ref 24, .int x1, .int x2, .int x3, p_U] [.int (s1 - s1 / s0 * s0)] w) ∧
  (∀ (scr : pX) (w : pW) (x1 : Int32) (x2 : Int32) (x3 : Int32) (s0 : Int32), p_ev scr 151 26 [.ref 24, .int x1, .int x2, .int x3, p_U] [.int s0] w = p_ev scr 151 28 [.ref 24, .int x1, .int x2, .int x3, .int s0] [] w) ∧
  (∀ (scr : pX) (w : pW) (x1 : Int32) (x2 : Int32) (x3 : Int32) (x4 : Int32), p_ev scr 151 28 [.ref 24, .int x1, .int x2, .int x3, .int x4] [] w = p_ev scr 151 29 [.ref 24, .int x1, .int x2, .int x3, .int x4] [.int x3] w) ∧
  (∀ (scr : pX) (w : pW) (x1 : Int32) (x2 : Int32) (x3 : Int32) (x4 : Int32) (s0 : Int32), p_ev scr 151 29 [.ref 24, .int x1, .int x2, .int x3, .int x4] [.int s0] w = p_ev scr 151 30 [.ref 24, .int x1, .int x2, .int x3, .int x4] [.int (nI 1), .int s0] w) ∧
  (∀ (scr : pX) (w : pW) (x1 : Int32) (x2 : Int32) (x3 : Int32) (x4 : Int32) (s0 : Int32) (s1 : Int32), p_ev scr 151 30 [.ref 24, .int x1, .int x2, .int x3, .int x4] [.int s0, .int s1] w = if ¬ s1 = s0 then p_ev scr 151 51 [.ref 24, .int x1, .int x2, .int x3, .int x4] [] w else p_ev scr 151 33 [.ref 24, .int x1, .int x2, .int x3, .int x4] [] w) ∧
  (∀ (scr : pX) (w : pW) (x1 : Int32) (x2 : Int32) (x3 : Int32) (x4 : Int32), p_ev scr 151 33 [.ref 24, .int x1, .int x2, .int x3, .int x4] [] w = p_ev scr 151 34 [.ref 24, .int x1, .int x2, .int x3, .int x4] [.ref 24] w) ∧
  (∀ (scr : pX) (w : pW) (x1 : Int32) (x2 : Int32) (x3 : Int32) (x4 : Int32), p_ev scr 151 34 [.ref 24, .int x1, .int x2, .int x3, .int x4] [.ref 24] w = p_ev scr 151 37 [.ref 24, .int x1, .int x2, .int x3, .int x4] [.ref 37] w) ∧
  (∀ (scr : pX) (w : pW) (x1 : Int32) (x2 : Int32) (x3 : Int32) (x4 : Int32), p_ev scr 151 37 [.ref 24, .int x1, .int x2, .int x3, .int x4] [.ref 37] w = p_ev scr 151 38 [.ref 24, .int x1, .int x2, .int x3, .int x4] [.int x2, .ref 37] w) ∧
  (∀ (scr : pX) (w : pW) (x1 : Int32) (x2 : Int32) (x3 : Int32) (x4 : Int32) (s0 : Int32), p_ev scr 151 38 [.ref 24, .int x1, .int x2, .int x3, .int x4] [.int s0, .ref 37] w = p_ev scr 151 39 [.ref 24, .int x1, .int x2, .int x3, .int x4] [.long (lN 1), .int s0, .ref 37] w) ∧
  (∀ (scr : pX) (w : pW) (x1 : Int32) (x2 : Int32) (x3 : Int32) (x4 : Int32) (t0 : Int64) (s1 : Int32), p_ev scr 151 39 [.ref 24, .int x1, .int x2, .int x3, .int x4] [.long t0, .int s1, .ref 37] w = p_ev scr 151 41 [.ref 24, .int x1, .int x2, .int x3, .int x4] [.int x4, .long t0, .int s1, .ref 37] w) ∧
  (∀ (scr : pX) (w : pW) (x1 : Int32) (x2 : Int32) (x3 : Int32) (x4 : Int32) (s0 : Int32) (t1 : Int64) (s2 : Int32), p_ev scr 151 41 [.ref 24, .int x1, .int x2, .int x3, .int x4] [.int s0, .long t1, .int s2, .ref 37] w = p_ev scr 151 42 [.ref 24, .int x1, .int x2, .int x3, .int x4] [.long (t1 <<< (s0.toInt64 &&& 63)), .int s2, .ref 37] w) ∧
  (∀ (scr : pX) (w : pW) (x1 : Int32) (x2 : Int32) (x3 : Int32) (x4 : Int32) (t0 : Int64) (s1 : Int32), p_out s1 32 = false → p_ev scr 151 42 [.ref 24, .int x1, .int x2, .int x3, .int x4] [.long t0, .int s1, .ref 37] w = p_ev scr 151 43 [.ref 24, .int x1, .int x2, .int x3, .int x4] [] (w.1, p_u w.2.1 37 s1.toNatClampNeg t0, w.2.2)) ∧
  (∀ (scr : pX) (w : pW) (x1 : Int32) (x2 : Int32) (x3 : Int32) (x4 : Int32), p_ev scr 151 43 [.ref 24, .int x1, .int x2, .int x3, .int x4] [] w = p_ev scr 151 44 [.ref 24, .int x1, .int x2, .int x3, .int x4] [.ref 24] w) ∧
  (∀ (scr : pX) (w : pW) (x1 : Int32) (x2 : Int32) (x3 : Int32) (x4 : Int32), p_ev scr 151 44 [.ref 24, .int x1, .int x2, .int x3, .int x4] [.ref 24] w = p_ev scr 151 47 [.ref 24, .int x1, .int x2, .int x3, .int x4] [.ref 38] w) ∧
  (∀ (scr : pX) (w : pW) (x1 : Int32) (x2 : Int32) (x3 : Int32) (x4 : Int32), p_ev scr 151 47 [.ref 24, .int x1, .int x2, .int x3, .int x4] [.ref 38] w = p_ev scr 151 48 [.ref 24, .int x1, .int x2, .int x3, .int x4] [.int x2, .ref 38] w) ∧
  (∀ (scr : pX) (w : pW) (x1 : Int32) (x2 : Int32) (x3 : Int32) (x4 : Int32) (s0 : Int32), p_ev scr 151 48 [.ref 24, .int x1, .int x2, .int x3, .int x4] [.int s0, .ref 38] w = p_ev scr 151 50 [.ref 24, .int x1, .int x2, .int x3, .int x4] [.int x4, .int s0, .ref 38] w) ∧
  (∀ (scr : pX) (w : pW) (x1 : Int32) (x2 : Int32) (x3 : Int32) (x4 : Int32) (s0 : Int32) (s1 : Int32), p_out s1 32 = false → p_ev scr 151 50 [.ref 24, .int x1, .int x2, .int x3, .int x4] [.int s0, .int s1, .ref 38] w = p_ev scr 151 51 [.ref 24, .int x1, .int x2, .int x3, .int x4] [] (w.1, w.2.1, p_u w.2.2 38 s1.toNatClampNeg s0)) ∧
  (∀ (scr : pX) (w : pW) (x1 : Int32) (x2 : Int32) (x3 : Int32) (x4 : Int32), p_ev scr 151 51 [.ref 24, .int x1, .int x2, .int x3, .int x4] [] w = p_ev scr 151 52 [.ref 24, .int x1, .int x2, .int x3, .int x4] [.int x3] w) ∧
  (∀ (scr : pX) (w : pW) (x1 : Int32) (x2 : Int32) (x3 : Int32) (x4 : Int32) (s0 : Int32), p_ev scr 151 52 [.ref 24, .int x1, .int x2, .int x3, .int x4] [.int s0] w = p_ev scr 151 53 [.ref 24, .int x1, .int x2, .int x3, .int x4] [.int (nI 2), .int s0] w) ∧
  (∀ (scr : pX) (w : pW) (x1 : Int32) (x2 : Int32) (x3 : Int32) (x4 : Int32) (s0 : Int32) (s1 : Int32), p_ev scr 151 53 [.ref 24, .int x1, .int x2, .int x3, .int x4] [.int s0, .int s1] w = if ¬ s1 = s0 then p_ev scr 151 77 [.ref 24, .int x1, .int x2, .int x3, .int x4] [] w else p_ev scr 151 56 [.ref 24, .int x1, .int x2, .int x3, .int x4] [] w) ∧
  (∀ (scr : pX) (w : pW) (x1 : Int32) (x2 : Int32) (x3 : Int32) (x4 : Int32), p_ev scr 151 56 [.ref 24, .int x1, .int x2, .int x3, .int x4] [] w = p_ev scr 151 57 [.ref 24, .int x1, .int x2, .int x3, .int x4] [.ref 24] w) ∧
  (∀ (scr : pX) (w : pW) (x1 : Int32) (x2 : Int32) (x3 : Int32) (x4 : Int32), p_ev scr 151 57 [.ref 24, .int x1, .int x2, .int x3, .int x4] [.ref 24] w = p_ev scr 151 60 [.ref 24, .int x1, .int x2, .int x3, .int x4] [.ref 39] w) ∧
  (∀ (scr : pX) (w : pW) (x1 : Int32) (x2 : Int32) (x3 : Int32) (x4 : Int32), p_ev scr 151 60 [.ref 24, .int x1, .int x2, .int x3, .int x4] [.ref 39] w = p_ev scr 151 61 [.ref 24, .int x1, .int x2, .int x3, .int x4] [.int x2, .ref 39] w) ∧
  (∀ (scr : pX) (w : pW) (x1 : Int32) (x2 : Int32) (x3 : Int32) (x4 : Int32) (s0 : Int32), p_ev scr 151 61 [.ref 24, .int x1, .int x2, .int x3, .int x4] [.int s0, .ref 39] w = p_ev scr 151 62 [.ref 24, .int x1, .int x2, .int x3, .int x4] [.ref 24, .int s0, .ref 39] w) ∧
  (∀ (scr : pX) (w : pW) (x1 : Int32) (x2 : Int32) (x3 : Int32) (x4 : Int32) (s1 : Int32), p_ev scr 151 62 [.ref 24, .int x1, .int x2, .int x3, .int x4] [.ref 24, .int s1, .ref 39] w = p_ev scr 151 65 [.ref 24, .int x1, .int x2, .int x3, .int x4] [.ref 34, .int s1, .ref 39] w) ∧
  (∀ (scr : pX) (w : pW) (x1 : Int32) (x2 : Int32) (x3 : Int32) (x4 : Int32) (s1 : Int32), p_ev scr 151 65 [.ref 24, .int x1, .int x2, .int x3, .int x4] [.ref 34, .int s1, .ref 39] w = p_ev scr 151 66 [.ref 24, .int x1, .int x2, .int x3, .int x4] [.int x1, .ref 34, .int s1, .ref 39] w) ∧
  (∀ (scr : pX) (w : pW) (x1 : Int32) (x2 : Int32) (x3 : Int32) (x4 : Int32) (s0 : Int32) (s2 : Int32), p_out s0 4100 = false → p_ev scr 151 66 [.ref 24, .int x1, .int x2, .int x3, .int x4] [.int s0, .ref 34, .int s2, .ref 39] w = p_ev scr 151 67 [.ref 24, .int x1, .int x2, .int x3, .int x4] [.int (w.2.2 34 s0.toNatClampNeg), .int s2, .ref 39] w) ∧
  (∀ (scr : pX) (w : pW) (x1 : Int32) (x2 : Int32) (x3 : Int32) (x4 : Int32) (s0 : Int32) (s1 : Int32), p_ev scr 151 67 [.ref 24, .int x1, .int x2, .int x3, .int x4] [.int s0, .int s1, .ref 39] w = p_ev scr 151 68 [.ref 24, .int x1, .int x2, .int x3, .int x4] [.int (nI 1), .int s0, .int s1, .ref 39] w) ∧
  (∀ (scr : pX) (w : pW) (x1 : Int32) (x2 : Int32) (x3 : Int32) (x4 : Int32) (s0 : Int32) (s1 : Int32) (s2 : Int32), p_ev scr 151 68 [.ref 24, .int x1, .int x2, .int x3, .int x4] [.int s0, .int s1, .int s2, .ref 39] w = if ¬ s1 = s0 then p_ev scr 151 75 [.ref 24, .int x1, .int x2, .int x3, .int x4] [.int s2, .ref 39] w else p_ev scr 151 71 [.ref 24, .int x1, .int x2, .int x3, .int x4] [.int s2, .ref 39] w) ∧
  (∀ (scr : pX) (w : pW) (x1 : Int32) (x2 : Int32) (x3 : Int32) (x4 : Int32) (s0 : Int32), p_ev scr 151 71 [.ref 24, .int x1, .int x2, .int x3, .int x4] [.int s0, .ref 39] w = p_ev scr 151 72 [.ref 24, .int x1, .int x2, .int x3, .int x4] [.int (-1 : Int32), .int s0, .ref 39] w) ∧
  (∀ (scr : pX) (w : pW) (x1 : Int32) (x2 : Int32) (x3 : Int32) (x4 : Int32) (s0 : Int32) (s1 : Int32), p_ev scr 151 72 [.ref 24, .int x1, .int x2, .int x3, .int x4] [.int s0, .int s1, .ref 39] w = p_ev scr 151 76 [.ref 24, .int x1, .int x2, .int x3, .int x4] [.int s0, .int s1, .ref 39] w) ∧
  (∀ (scr : pX) (w : pW) (x1 : Int32) (x2 : Int32) (x3 : Int32) (x4 : Int32) (s0 : Int32), p_ev scr 151 75 [.ref 24, .int x1, .int x2, .int x3, .int x4] [.int s0, .ref 39] w = p_ev scr 151 76 [.ref 24, .int x1, .int x2, .int x3, .int x4] [.int (nI 1), .int s0, .ref 39] w) ∧
  (∀ (scr : pX) (w : pW) (x1 : Int32) (x2 : Int32) (x3 : Int32) (x4 : Int32) (s0 : Int32) (s1 : Int32), p_out s1 32 = false → p_ev scr 151 76 [.ref 24, .int x1, .int x2, .int x3, .int x4] [.int s0, .int s1, .ref 39] w = p_ev scr 151 77 [.ref 24, .int x1, .int x2, .int x3, .int x4] [] (w.1, w.2.1, p_u w.2.2 39 s1.toNatClampNeg s0)) ∧
  (∀ (scr : pX) (w : pW) (x1 : Int32) (x2 : Int32) (x3 : Int32) (x4 : Int32), p_ev scr 151 77 [.ref 24, .int x1, .int x2, .int x3, .int x4] [] w = p_ev scr 151 78 [.ref 24, .int x1, .int x2, .int x3, .int x4] [.int x3] w) ∧
  (∀ (scr : pX) (w : pW) (x1 : Int32) (x2 : Int32) (x3 : Int32) (x4 : Int32) (s0 : Int32), p_ev scr 151 78 [.ref 24, .int x1, .int x2, .int x3, .int x4] [.int s0] w = p_ev scr 151 79 [.ref 24, .int x1, .int x2, .int x3, .int x4] [.int (nI 3), .int s0] w) ∧
  (∀ (scr : pX) (w : pW) (x1 : Int32) (x2 : Int32) (x3 : Int32) (x4 : Int32) (s0 : Int32) (s1 : Int32), p_ev scr 151 79 [.ref 24, .int x1, .int x2, .int x3, .int x4] [.int s0, .int s1] w = if ¬ s1 = s0 then p_ev scr 151 109 [.ref 24, .int x1, .int x2, .int x3, .int x4] [] w else p_ev scr 151 82 [.ref 24, .int x1, .int x2, .int x3, .int x4] [] w) ∧
  (∀ (scr : pX) (w : pW) (x1 : Int32) (x2 : Int32) (x3 : Int32) (x4 : Int32), p_ev scr 151 82 [.ref 24, .int x1, .int x2, .int x3, .int x4] [] w = p_ev scr 151 83 [.ref 24, .int x1, .int x2, .int x3, .int x4] [.ref 24] w) ∧
  (∀ (scr : pX) (w : pW) (x1 : Int32) (x2 : Int32) (x3 : Int32) (x4 : Int32), p_ev scr 151 83 [.ref 24, .int x1, .int x2, .int x3, .int x4] [.ref 24] w = p_ev scr 151 86 [.ref 24, .int x1, .int x2, .int x3, .int x4] [.ref 37] w) ∧
  (∀ (scr : pX) (w : pW) (x1 : Int32) (x2 : Int32) (x3 : Int32) (x4 : Int32), p_ev scr 151 86 [.ref 24, .int x1, .int x2, .int x3, .int x4] [.ref 37] w = p_ev scr 151 87 [.ref 24, .int x1, .int x2, .int x3, .int x4] [.int x2, .ref 37] w) ∧
  (∀ (scr : pX) (w : pW) (x1 : Int32) (x2 : Int32) (x3 : Int32) (x4 : Int32) (s0 : Int32), p_ev scr 151 87 [.ref 24, .int x1, .int x2, .int x3, .int x4] [.int s0, .ref 37] w = p_ev scr 151 88 [.ref 24, .int x1, .int x2, .int x3, .int x4] [.int s0, .ref 37, .int s0, .ref 37] w) ∧
  (∀ (scr : pX) (w : pW) (x1 : Int32) (x2 : Int32) (x3 : Int32) (x4 : Int32) (s0 : Int32) (s2 : Int32), p_out s0 32 = false → p_ev scr 151 88 [.ref 24, .int x1, .int x2, .int x3, .int x4] [.int s0, .ref 37, .int s2, .ref 37] w = p_ev scr 151 89 [.ref 24, .int x1, .int x2, .int x3, .int x4] [.long (w.2.1 37 s0.toNatClampNeg), .int s2, .ref 37] w) ∧
  (∀ (scr : pX) (w : pW) (x1 : Int32) (x2 : Int32) (x3 : Int32) (x4 : Int32) (t0 : Int64) (s1 : Int32), p_ev scr 151 89 [.ref 24, .int x1, .int x2, .int x3, .int x4] [.long t0, .int s1, .ref 37] w = p_ev scr 151 90 [.ref 24, .int x1, .int x2, .int x3, .int x4] [.ref 24, .long t0, .int s1, .ref 37] w) ∧
  (∀ (scr : pX) (w : pW) (x1 : Int32) (x2 : Int32) (x3 : Int32) (x4 : Int32) (t1 : Int64) (s2 : Int32), p_ev scr 151 90 [.ref 24, .int x1, .int x2, .int x3, .int x4] [.ref 24, .long t1, .int s2, .ref 37] w = p_ev scr 151 93 [.ref 24, .int x1, .int x2, .int x3, .int x4] [.ref 34, .long t1, .int s2, .ref 37] w) ∧
  (∀ (scr : pX) (w : pW) (x1 : Int32) (x2 : Int32) (x3 : Int32) (x4 : Int32) (t1 : Int64) (s2 : Int32), p_ev scr 151 93 [.ref 24, .int x1, .int x2, .int x3, .int x4] [.ref 34, .long t1, .int s2, .ref 37] w = p_ev scr 151 94 [.ref 24, .int x1, .int x2, .int x3, .int x4] [.int x1, .ref 34, .long t1, .int s2, .ref 37] w) ∧
  (∀ (scr : pX) (w : pW) (x1 : Int32) (x2 : Int32) (x3 : Int32) (x4 : Int32) (s0 : Int32) (t2 : Int64) (s3 : Int32), p_out s0 4100 = false → p_ev scr 151 94 [.ref 24, .int x1, .int x2, .int x3, .int x4] [.int s0, .ref 34, .long t2, .int s3, .ref 37] w = p_ev scr 151 95 [.ref 24, .int x1, .int x2, .int x3, .int x4] [.int (w.2.2 34 s0.toNatClampNeg), .long t2, .int s3, .ref 37] w) ∧
  (∀ (scr : pX) (w : pW) (x1 : Int32) (x2 : Int32) (x3 : Int32) (x4 : Int32) (s0 : Int32) (t1 : Int64) (s2 : Int32), p_ev scr 151 95 [.ref 24, .int x1, .int x2, .int x3, .int x4] [.int s0, .long t1, .int s2, .ref 37] w = p_ev scr 151 96 [.ref 24, .int x1, .int x2, .int x3, .int x4] [.long s0.toInt64, .long t1, .int s2, .ref 37] w) ∧
  (∀ (scr : pX) (w : pW) (x1 : Int32) (x2 : Int32) (x3 : Int32) (x4 : Int32) (t0 : Int64) (t1 : Int64) (s2 : Int32), p_ev scr 151 96 [.ref 24, .int x1, .int x2, .int x3, .int x4] [.long t0, .long t1, .int s2, .ref 37] w = p_ev scr 151 98 [.ref 24, .int x1, .int x2, .int x3, .int x4] [.int x4, .long t0, .long t1, .int s2, .ref 37] w) ∧
  (∀ (scr : pX) (w : pW) (x1 : Int32) (x2 : Int32) (x3 : Int32) (x4 : Int32) (s0 : Int32) (t1 : Int64) (t2 : Int64) (s3 : Int32), p_ev scr 151 98 [.ref 24, .int x1, .int x2, .int x3, .int x4] [.int s0, .long t1, .long t2, .int s3, .ref 37] w = p_ev scr 151 99 [.ref 24, .int x1, .int x2, .int x3, .int x4] [.long (t1 <<< (s0.toInt64 &&& 63)), .long t2, .int s3, .ref 37] w) ∧
  (∀ (scr : pX) (w : pW) (x1 : Int32) (x2 : Int32) (x3 : Int32) (x4 : Int32) (t0 : Int64) (t1 : Int64) (s2 : Int32), p_ev scr 151 99 [.ref 24, .int x1, .int x2, .int x3, .int x4] [.long t0, .long t1, .int s2, .ref 37] w = p_ev scr 151 100 [.ref 24, .int x1, .int x2, .int x3, .int x4] [.long (t1 + t0), .int s2, .ref 37] w) ∧
  (∀ (scr : pX) (w : pW) (x1 : Int32) (x2 : Int32) (x3 : Int32) (x4 : Int32) (t0 : Int64) (s1 : Int32), p_out s1 32 = false → p_ev scr 151 100 [.ref 24, .int x1, .int x2, .int x3, .int x4] [.long t0, .int s1, .ref 37] w = p_ev scr 151 101 [.ref 24, .int x1, .int x2, .int x3, .int x4] [] (w.1, p_u w.2.1 37 s1.toNatClampNeg t0, w.2.2)) ∧
  (∀ (scr : pX) (w : pW) (x1 : Int32) (x2 : Int32) (x3 : Int32) (x4 : Int32), p_ev scr 151 101 [.ref 24, .int x1, .int x2, .int x3, .int x4] [] w = p_ev scr 151 102 [.ref 24, .int x1, .int x2, .int x3, .int x4] [.ref 24] w) ∧
  (∀ (scr : pX) (w : pW) (x1 : Int32) (x2 : Int32) (x3 : Int32) (x4 : Int32), p_ev scr 151 102 [.ref 24, .int x1, .int x2, .int x3, .int x4] [.ref 24] w = p_ev scr 151 105 [.ref 24, .int x1, .int x2, .int x3, .int x4] [.ref 38] w) ∧
  (∀ (scr : pX) (w : pW) (x1 : Int32) (x2 : Int32) (x3 : Int32) (x4 : Int32), p_ev scr 151 105 [.ref 24, .int x1, .int x2, .int x3, .int x4] [.ref 38] w = p_ev scr 151 106 [.ref 24, .int x1, .int x2, .int x3, .int x4] [.int x2, .ref 38] w) ∧
  (∀ (scr : pX) (w : pW) (x1 : Int32) (x2 : Int32) (x3 : Int32) (x4 : Int32) (s0 : Int32), p_ev scr 151 106 [.ref 24, .int x1, .int x2, .int x3, .int x4] [.int s0, .ref 38] w = p_ev scr 151 108 [.ref 24, .int x1, .int x2, .int x3, .int x4] [.int x4, .int s0, .ref 38] w) ∧
  (∀ (scr : pX) (w : pW) (x1 : Int32) (x2 : Int32) (x3 : Int32) (x4 : Int32) (s0 : Int32) (s1 : Int32), p_out s1 32 = false → p_ev scr 151 108 [.ref 24, .int x1, .int x2, .int x3, .int x4] [.int s0, .int s1, .ref 38] w = p_ev scr 151 109 [.ref 24, .int x1, .int x2, .int x3, .int x4] [] (w.1, w.2.1, p_u w.2.2 38 s1.toNatClampNeg s0)) ∧
  (∀ (scr : pX) (w : pW) (x1 : Int32) (x2 : Int32) (x3 : Int32) (x4 : Int32), p_ev scr 151 109 [.ref 24, .int x1, .int x2, .int x3, .int x4] [] w = some (.inl none, w, 0)) :=
  ⟨fun _ _ _ => p_r (by decide +kernel : p_at 151 0 = some (.aload_n 0)) rfl,
  fun _ _ _ => p_rgf (f := some 35) (by decide +kernel : p_at 151 1 = some (.getfield 45)) (by decide +kernel : p_fld (p_own 151) 45 = some (5, 13)) (rfl : p_ob 24 = some (.inr (5, [some 25, some 26, none, none, none, some 27, some 28, some 29, some 30, some 31, some 32, some 33, some 34, some 35, some 36, some 37, some 38, some 39, none, none, some 40]))) rfl,
  fun _ _ _ => p_r (by decide +kernel : p_at 151 4 = some (.iload_n 1)) rfl,
  fun _ _ _ _ hp => p_riald (by decide +kernel : p_at 151 5 = some (.iaload)) (rfl : p_ob 35 = some (.inl (1, 4100))) hp,
  fun _ _ _ _ => p_r (by decide +kernel : p_at 151 6 = some (.istore_n 2)) rfl,
  fun _ _ _ _ => p_r (by decide +kernel : p_at 151 7 = some (.aload_n 0)) rfl,
  fun _ _ _ _ => p_rgf (f := some 36) (by decide +kernel : p_at 151 8 = some (.getfield 48)) (by decide +kernel : p_fld (p_own 151) 48 = some (5, 14)) (rfl : p_ob 24 = some (.inr (5, [some 25, some 26, none, none, none, some 27, some 28, some 29, some 30, some 31, some 32, some 33, some 34, some 35, some 36, some 37, some 38, some 39, none, none, some 40]))) rfl,
  fun _ _ _ _ => p_r (by decide +kernel : p_at 151 11 = some (.iload_n 1)) rfl,
  fun _ _ _ _ _ hp => p_riald (by decide +kernel : p_at 151 12 = some (.iaload)) (rfl : p_ob 36 = some (.inl (1, 4100))) hp,
  fun _ _ _ _ _ => p_r (by decide +kernel : p_at 151 13 = some (.bipush 64)) rfl,
  fun _ _ _ _ _ _ hp => p_ridiv (by decide +kernel : p_at 151 15 = some (.idiv)) hp,
  fun _ _ _ _ _ => p_r (by decide +kernel : p_at 151 16 = some (.istore_n 3)) rfl,
  fun _ _ _ _ _ => p_r (by decide +kernel : p_at 151 17 = some (.aload_n 0)) rfl,
  fun _ _ _ _ _ => p_rgf (f := some 36) (by decide +kernel : p_at 151 18 = some (.getfield 48)) (by decide +kernel : p_fld (p_own 151) 48 = some (5, 14)) (rfl : p_ob 24 = some (.inr (5, [some 25, some 26, none, none, none, some 27, some 28, some 29, some 30, some 31, some 32, some 33, some 34, some 35, some 36, some 37, some 38, some 39, none, none, some 40]))) rfl,
  fun _ _ _ _ _ => p_r (by decide +kernel : p_at 151 21 = some (.iload_n 1)) rfl,
  fun _ _ _ _ _ _ hp => p_riald (by decide +kernel : p_at 151 22 = some (.iaload)) (rfl : p_ob 36 = some (.inl (1, 4100))) hp,
  fun _ _ _ _ _ _ => p_r (by decide +kernel : p_at 151 23 = some (.bipush 64)) rfl,
  fun _ _ _ _ _ _ _ hp => p_rirem (by decide +kernel : p_at 151 25 = some (.irem)) hp,
  fun _ _ _ _ _ _ => p_r (by decide +kernel : p_at 151 26 = some (.istore 4)) rfl,
  fun _ _ _ _ _ _ => p_r (by decide +kernel : p_at 151 28 = some (.iload_n 3)) rfl,
  fun _ _ _ _ _ _ _ => p_r (by decide +kernel : p_at 151 29 = some (.iconst 1)) rfl,
  fun _ _ _ _ _ _ _ _ => p_rb2 (c := fun x y => decide (¬ x = y)) (off := 21) (by decide +kernel : p_at 151 30 = some (.if_icmp .ne 21)) (by decide +kernel) rfl rfl rfl,
  fun _ _ _ _ _ _ => p_r (by decide +kernel : p_at 151 33 = some (.aload_n 0)) rfl,
  fun _ _ _ _ _ _ => p_rgf (f := some 37) (by decide +kernel : p_at 151 34 = some (.getfield 51)) (by decide +kernel : p_fld (p_own 151) 51 = some (5, 15)) (rfl : p_ob 24 = some (.inr (5, [some 25, some 26, none, none, none, some 27, some 28, some 29, some 30, some 31, some 32, some 33, some 34, some 35, some 36, some 37, some 38, some 39, none, none, some 40]))) rfl,
  fun _ _ _ _ _ _ => p_r (by decide +kernel : p_at 151 37 = some (.iload_n 2)) rfl,
  fun _ _ _ _ _ _ _ => p_r (by decide +kernel : p_at 151 38 = some (.lconst 1)) rfl,
  fun _ _ _ _ _ _ _ _ => p_r (by decide +kernel : p_at 151 39 = some (.iload 4)) rfl,
  fun _ _ _ _ _ _ _ _ _ => p_r (by decide +kernel : p_at 151 41 = some (.lshl)) rfl,
  fun _ _ _ _ _ _ _ _ hp => p_rlast (by decide +kernel : p_at 151 42 = some (.lastore)) (rfl : p_ob 37 = some (.inl (2, 32))) hp,
  fun _ _ _ _ _ _ => p_r (by decide +kernel : p_at 151 43 = some (.aload_n 0)) rfl,
  fun _ _ _ _ _ _ => p_rgf (f := some 38) (by decide +kernel : p_at 151 44 = some (.getfield 54)) (by decide +kernel : p_fld (p_own 151) 54 = some (5, 16)) (rfl : p_ob 24 = some (.inr (5, [some 25, some 26, none, none, none, some 27, some 28, some 29, some 30, some 31, some 32, some 33, some 34, some 35, some 36, some 37, some 38, some 39, none, none, some 40]))) rfl,
  fun _ _ _ _ _ _ => p_r (by decide +kernel : p_at 151 47 = some (.iload_n 2)) rfl,
  fun _ _ _ _ _ _ _ => p_r (by decide +kernel : p_at 151 48 = some (.iload 4)) rfl,
  fun _ _ _ _ _ _ _ _ hp => p_riast (by decide +kernel : p_at 151 50 = some (.iastore)) (rfl : p_ob 38 = some (.inl (1, 32))) hp,
  fun _ _ _ _ _ _ => p_r (by decide +kernel : p_at 151 51 = some (.iload_n 3)) rfl,
  fun _ _ _ _ _ _ _ => p_r (by decide +kernel : p_at 151 52 = some (.iconst 2)) rfl,
  fun _ _ _ _ _ _ _ _ => p_rb2 (c := fun x y => decide (¬ x = y)) (off := 24) (by decide +kernel : p_at 151 53 = some (.if_icmp .ne 24)) (by decide +kernel) rfl rfl rfl,
  fun _ _ _ _ _ _ => p_r (by decide +kernel : p_at 151 56 = some (.aload_n 0)) rfl,
  fun _ _ _ _ _ _ => p_rgf (f := some 39) (by decide +kernel : p_at 151 57 = some (.getfield 57)) (by decide +kernel : p_fld (p_own 151) 57 = some (5, 17)) (rfl : p_ob 24 = some (.inr (5, [some 25, some 26, none, none, none, some 27, some 28, some 29, some 30, some 31, some 32, some 33, some 34, some 35, some 36, some 37, some 38, some 39, none, none, some 40]))) rfl,
  fun _ _ _ _ _ _ => p_r (by decide +kernel : p_at 151 60 = some (.iload_n 2)) rfl,
  fun _ _ _ _ _ _ _ => p_r (by decide +kernel : p_at 151 61 = some (.aload_n 0)) rfl,
  fun _ _ _ _ _ _ _ => p_rgf (f := some 34) (by decide +kernel : p_at 151 62 = some (.getfield 42)) (by decide +kernel : p_fld (p_own 151) 42 = some (5, 12)) (rfl : p_ob 24 = some (.inr (5, [some 25, some 26, none, none, none, some 27, some 28, some 29, some 30, some 31, some 32, some 33, some 34, some 35, some 36, some 37, some 38, some 39, none, none, some 40]))) rfl,
  fun _ _ _ _ _ _ _ => p_r (by decide +kernel : p_at 151 65 = some (.iload_n 1)) rfl,
  fun _ _ _ _ _ _ _ _ hp => p_riald (by decide +kernel : p_at 151 66 = some (.iaload)) (rfl : p_ob 34 = some (.inl (1, 4100))) hp,
  fun _ _ _ _ _ _ _ _ => p_r (by decide +kernel : p_at 151 67 = some (.iconst 1)) rfl,
  fun _ _ _ _ _ _ _ _ _ => p_rb2 (c := fun x y => decide (¬ x = y)) (off := 7) (by decide +kernel : p_at 151 68 = some (.if_icmp .ne 7)) (by decide +kernel) rfl rfl rfl,
  fun _ _ _ _ _ _ _ => p_r (by decide +kernel : p_at 151 71 = some (.iconst (-1))) rfl,
  fun _ _ _ _ _ _ _ _ => p_rgo (by decide +kernel : p_at 151 72 = some (.goto 4)) (by decide +kernel),
  fun _ _ _ _ _ _ _ => p_r (by decide +kernel : p_at 151 75 = some (.iconst 1)) rfl,
  fun _ _ _ _ _ _ _ _ hp => p_riast (by decide +kernel : p_at 151 76 = some (.iastore)) (rfl : p_ob 39 = some (.inl (1, 32))) hp,
  fun _ _ _ _ _ _ => p_r (by decide +kernel : p_at 151 77 = some (.iload_n 3)) rfl,
  fun _ _ _ _ _ _ _ => p_r (by decide +kernel : p_at 151 78 = some (.iconst 3)) rfl,
  fun _ _ _ _ _ _ _ _ => p_rb2 (c := fun x y => decide (¬ x = y)) (off := 30) (by decide +kernel : p_at 151 79 = some (.if_icmp .ne 30)) (by decide +kernel) rfl rfl rfl,
  fun _ _ _ _ _ _ => p_r (by decide +kernel : p_at 151 82 = some (.aload_n 0)) rfl,
  fun _ _ _ _ _ _ => p_rgf (f := some 37) (by decide +kernel : p_at 151 83 = some (.getfield 51)) (by decide +kernel : p_fld (p_own 151) 51 = some (5, 15)) (rfl : p_ob 24 = some (.inr (5, [some 25, some 26, none, none, none, some 27, some 28, some 29, some 30, some 31, some 32, some 33, some 34, some 35, some 36, some 37, some 38, some 39, none, none, some 40]))) rfl,
  fun _ _ _ _ _ _ => p_r (by decide +kernel : p_at 151 86 = some (.iload_n 2)) rfl,
  fun _ _ _ _ _ _ _ => p_r (by decide +kernel : p_at 151 87 = some (.dup2)) rfl,
  fun _ _ _ _ _ _ _ _ hp => p_rlald (by decide +kernel : p_at 151 88 = some (.laload)) (rfl : p_ob 37 = some (.inl (2, 32))) hp,
  fun _ _ _ _ _ _ _ _ => p_r (by decide +kernel : p_at 151 89 = some (.aload_n 0)) rfl,
  fun _ _ _ _ _ _ _ _ => p_rgf (f := some 34) (by decide +kernel : p_at 151 90 = some (.getfield 42)) (by decide +kernel : p_fld (p_own 151) 42 = some (5, 12)) (rfl : p_ob 24 = some (.inr (5, [some 25, some 26, none, none, none, some 27, some 28, some 29, some 30, some 31, some 32, some 33, some 34, some 35, some 36, some 37, some 38, some 39, none, none, some 40]))) rfl,
  fun _ _ _ _ _ _ _ _ => p_r (by decide +kernel : p_at 151 93 = some (.iload_n 1)) rfl,
  fun _ _ _ _ _ _ _ _ _ hp => p_riald (by decide +kernel : p_at 151 94 = some (.iaload)) (rfl : p_ob 34 = some (.inl (1, 4100))) hp,
  fun _ _ _ _ _ _ _ _ _ => p_r (by decide +kernel : p_at 151 95 = some (.i2l)) rfl,
  fun _ _ _ _ _ _ _ _ _ => p_r (by decide +kernel : p_at 151 96 = some (.iload 4)) rfl,
  fun _ _ _ _ _ _ _ _ _ _ => p_r (by decide +kernel : p_at 151 98 = some (.lshl)) rfl,
  fun _ _ _ _ _ _ _ _ _ => p_r (by decide +kernel : p_at 151 99 = some (.ladd)) rfl,
  fun _ _ _ _ _ _ _ _ hp => p_rlast (by decide +kernel : p_at 151 100 = some (.lastore)) (rfl : p_ob 37 = some (.inl (2, 32))) hp,
  fun _ _ _ _ _ _ => p_r (by decide +kernel : p_at 151 101 = some (.aload_n 0)) rfl,
  fun _ _ _ _ _ _ => p_rgf (f := some 38) (by decide +kernel : p_at 151 102 = some (.getfield 54)) (by decide +kernel : p_fld (p_own 151) 54 = some (5, 16)) (rfl : p_ob 24 = some (.inr (5, [some 25, some 26, none, none, none, some 27, some 28, some 29, some 30, some 31, some 32, some 33, some 34, some 35, some 36, some 37, some 38, some 39, none, none, some 40]))) rfl,
  fun _ _ _ _ _ _ => p_r (by decide +kernel : p_at 151 105 = some (.iload_n 2)) rfl,
  fun _ _ _ _ _ _ _ => p_r (by decide +kernel : p_at 151 106 = some (.iload 4)) rfl,
  fun _ _ _ _ _ _ _ _ hp => p_riast (by decide +kernel : p_at 151 108 = some (.iastore)) (rfl : p_ob 38 = some (.inl (1, 32))) hp,
  fun _ _ _ _ _ _ => p_rvret (by decide +kernel : p_at 151 109 = some (.return_)) (by decide +kernel)⟩
-- 152: back
theorem M152 :
  (∀ (scr : pX) (w : pW) (x1 : Int32), p_ev scr 152 0 [.ref 24, .int x1, p_U, p_U] [] w = p_ev scr 152 1 [.ref 24, .int x1, p_U, p_U] [.ref 24] w) ∧
  (∀ (scr : pX) (w : pW) (x1 : Int32), p_ev scr 152 1 [.ref 24, .int x1, p_U, p_U] [.ref 24] w = p_ev scr 152 4 [.ref 24, .int x1, p_U, p_U] [.ref 38] w) ∧
  (∀ (scr : pX) (w : pW) (x1 : Int32), p_ev scr 152 4 [.ref 24, .int x1, p_U, p_U] [.ref 38] w = p_ev scr 152 5 [.ref 24, .int x1, p_U, p_U] [.int x1, .ref 38] w) ∧
  (∀ (scr : pX) (w : pW) (x1 : Int32) (s0 : Int32), p_out s0 32 = false → p_ev scr 152 5 [.ref 24, .int x1, p_U, p_U] [.int s0, .ref 38] w = p_ev scr 152 6 [.ref 24, .int x1, p_U, p_U] [.int (w.2.2 38 s0.toNatClampNeg)] w) ∧
  (∀ (scr : pX) (w : pW) (x1 : Int32) (s0 : Int32), p_ev scr 152 6 [.ref 24, .int x1, p_U, p_U] [.int s0] w = if s0 ≤ nI 0 then p_ev scr 152 22 [.ref 24, .int x1, p_U, p_U] [] w else p_ev scr 152 9 [.ref 24, .int x1, p_U, p_U] [] w) ∧
  (∀ (scr : pX) (w : pW) (x1 : Int32), p_ev scr 152 9 [.ref 24, .int x1, p_U, p_U] [] w = p_ev scr 152 10 [.ref 24, .int x1, p_U, p_U] [.long (lN 1)] w) ∧
  (∀ (scr : pX) (w : pW) (x1 : Int32) (t0 : Int64), p_ev scr 152 10 [.ref 24, .int x1, p_U, p_U] [.long t0] w = p_ev scr 152 11 [.ref 24, .int x1, p_U, p_U] [.ref 24, .long t0] w) ∧
  (∀ (scr : pX) (w : pW) (x1 : Int32) (t1 : Int64), p_ev scr 152 11 [.ref 24, .int x1, p_U, p_U] [.ref 24, .long t1] w = p_ev scr 152 14 [.ref 24, .int x1, p_U, p_U] [.ref 38, .long t1] w) ∧
  (∀ (scr : pX) (w : pW) (x1 : Int32) (t1 : Int64), p_ev scr 152 14 [.ref 24, .int x1, p_U, p_U] [.ref 38, .long t1] w = p_ev scr 152 15 [.ref 24, .int x1, p_U, p_U] [.int x1, .ref 38, .long t1] w) ∧
  (∀ (scr : pX) (w : pW) (x1 : Int32) (s0 : Int32) (t2 : Int64), p_out s0 32 = false → p_ev scr 152 15 [.ref 24, .int x1, p_U, p_U] [.int s0, .ref 38, .long t2] w = p_ev scr 152 16 [.ref 24, .int x1, p_U, p_U] [.int (w.2.2 38 s0.toNatClampNeg), .long t2] w) ∧
  (∀ (scr : pX) (w : pW) (x1 : Int32) (s0 : Int32) (t1 : Int64), p_ev scr 152 16 [.ref 24, .int x1, p_U, p_U] [.int s0, .long t1] w = p_ev scr 152 17 [.ref 24, .int x1, p_U, p_U] [.int (nI 1), .int s0, .long t1] w) ∧
  (∀ (scr : pX) (w : pW) (x1 : Int32) (s0 : Int32) (s1 : Int32) (t2 : Int64), p_ev scr 152 17 [.ref 24, .int x1, p_U, p_U] [.int s0, .int s1, .long t2] w = p_ev scr 152 18 [.ref 24, .int x1, p_U, p_U] [.int (s1 - s0), .long t2] w) ∧
  (∀ (scr : pX) (w : pW) (x1 : Int32) (s0 : Int32) (t1 : Int64), p_ev scr 152 18 [.ref 24, .int x1, p_U, p_U] [.int s0, .long t1] w = p_ev scr 152 19 [.ref 24, .int x1, p_U, p_U] [.long (t1 <<< (s0.toInt64 &&& 63))] w) ∧
  (∀ (scr : pX) (w : pW) (x1 : Int32) (t0 : Int64), p_ev scr 152 19 [.ref 24, .int x1, p_U, p_U] [.long t0] w = p_ev scr 152 23 [.ref 24, .int x1, p_U, p_U] [.long t0] w) ∧
  (∀ (scr : pX) (w : pW) (x1 : Int32), p_ev scr 152 22 [.ref 24, .int x1, p_U, p_U] [] w = p_ev scr 152 23 [.ref 24, .int x1, p_U, p_U] [.long (lN 0)] w) ∧
  (∀ (scr : pX) (w : pW) (x1 : Int32) (t0 : Int64), p_ev scr 152 23 [.ref 24, .int x1, p_U, p_U] [.long t0] w = p_ev scr 152 24 [.ref 24, .int x1, .long t0, p_U] [] w) ∧
  (∀ (scr : pX) (w : pW) (x1 : Int32) (y2 : Int64), p_ev scr 152 24 [.ref 24, .int x1, .long y2, p_U] [] w = p_ev scr 152 25 [.ref 24, .int x1, .long y2, p_U] [.ref 24] w) ∧
  (∀ (scr : pX) (w : pW) (x1 : Int32) (y2 : Int64), p_ev scr 152 25 [.ref 24, .int x1, .long y2, p_U] [.ref 24] w = p_ev scr 152 28 [.ref 24, .int x1, .long y2, p_U] [.ref 39] w) ∧
  (∀ (scr : pX) (w : pW) (x1 : Int32) (y2 : Int64), p_ev scr 152 28 [.ref 24, .int x1, .long y2, p_U] [.ref 39] w = p_ev scr 152 29 [.ref 24, .int x1, .long y2, p_U] [.int x1, .ref 39] w) ∧
  (∀ (scr : pX) (w : pW) (x1 : Int32) (y2 : Int64) (s0 : Int32), p_out s0 32 = false → p_ev scr 152 29 [.ref 24, .int x1, .long y2, p_U] [.int s0, .ref 39] w = p_ev scr 152 30 [.ref 24, .int x1, .long y2, p_U] [.int (w.2.2 39 s0.toNatClampNeg)] w) ∧
  (∀ (scr : pX) (w : pW) (x1 : Int32) (y2 : Int64) (s0 : Int32), p_ev scr 152 30 [.ref 24, .int x1, .long y2, p_U] [.int s0] w = p_ev scr 152 31 [.ref 24, .int x1, .long y2, p_U] [.long s0.toInt64] w) ∧
  (∀ (scr : pX) (w : pW) (x1 : Int32) (y2 : Int64) (t0 : Int64), p_ev scr 152 31 [.ref 24, .int x1, .long y2, p_U] [.long t0] w = p_ev scr 152 32 [.ref 24, .int x1, .long y2, p_U] [.ref 24, .long t0] w) ∧
  (∀ (scr : pX) (w : pW) (x1 : Int32) (y2 : Int64) (t1 : Int64), p_ev scr 152 32 [.ref 24, .int x1, .long y2, p_U] [.ref 24, .long t1] w = p_ev scr 152 35 [.ref 24, .int x1, .long y2, p_U] [.ref 37, .long t1] w) ∧
  (∀ (scr : pX) (w : pW) (x1 : Int32) (y2 : Int64) (t1 : Int64), p_ev scr 152 35 [.ref 24, .int x1, .long y2, p_U] [.ref 37, .long t1] w = p_ev scr 152 36 [.ref 24, .int x1, .long y2, p_U] [.int x1, .ref 37, .long t1] w) ∧
  (∀ (scr : pX) (w : pW) (x1 : Int32) (y2 : Int64) (s0 : Int32) (t2 : Int64), p_out s0 32 = false → p_ev scr 152 36 [.ref 24, .int x1, .long y2, p_U] [.int s0, .ref 37, .long t2] w = p_ev scr 152 37 [.ref 24, .int x1, .long y2, p_U] [.long (w.2.1 37 s0.toNatClampNeg), .long t2] w) ∧
  (∀ (scr : pX) (w : pW) (x1 : Int32) (y2 : Int64) (t0 : Int64) (t1 : Int64), p_ev scr 152 37 [.ref 24, .int x1, .long y2, p_U] [.long t0, .long t1] w = p_ev scr 152 38 [.ref 24, .int x1, .long y2, p_U] [.long y2, .long t0, .long t1] w) ∧
  (∀ (scr : pX) (w : pW) (x1 : Int32) (y2 : Int64) (t0 : Int64) (t1 : Int64) (t2 : Int64), p_ev scr 152 38 [.ref 24, .int x1, .long y2, p_U] [.long t0, .long t1, .long t2] w = p_ev scr 152 39 [.ref 24, .int x1, .long y2, p_U] [.long (t1 + t0), .long t2] w) ∧
  (∀ (scr : pX) (w : pW) (x1 : Int32) (y2 : Int64) (t0 : Int64) (t1 : Int64), p_ev scr 152 39 [.ref 24, .int x1, .long y2, p_U] [.long t0, .long t1] w = p_ev scr 152 40 [.ref 24, .int x1, .long y2, p_U] [.long (t1 * t0)] w) ∧
  (∀ (scr : pX) (w : pW) (x1 : Int32) (y2 : Int64) (t0 : Int64), p_ev scr 152 40 [.ref 24, .int x1, .long y2, p_U] [.long t0] w = some (.inl (some (.long t0)), w, 0)) :=
  ⟨fun _ _ _ => p_r (by decide +kernel : p_at 152 0 = some (.aload_n 0)) rfl,
  fun _ _ _ => p_rgf (f := some 38) (by decide +kernel : p_at 152 1 = some (.getfield 54)) (by decide +kernel : p_fld (p_own 152) 54 = some (5, 16)) (rfl : p_ob 24 = some (.inr (5, [some 25, some 26, none, none, none, some 27, some 28, some 29, some 30, some 31, some 32, some 33, some 34, some 35, some 36, some 37, some 38, some 39, none, none, some 40]))) rfl,
  fun _ _ _ => p_r (by decide +kernel : p_at 152 4 = some (.iload_n 1)) rfl,
  fun _ _ _ _ hp => p_riald (by decide +kernel : p_at 152 5 = some (.iaload)) (rfl : p_ob 38 = some (.inl (1, 32))) hp,
  fun _ _ _ _ => p_rb1 (c := fun x => decide (x ≤ 0)) (off := 16) (by decide +kernel : p_at 152 6 = some (.ifCond .le 16)) (by decide +kernel) rfl rfl rfl,
  fun _ _ _ => p_r (by decide +kernel : p_at 152 9 = some (.lconst 1)) rfl,
  fun _ _ _ _ => p_r (by decide +kernel : p_at 152 10 = some (.aload_n 0)) rfl,
  fun _ _ _ _ => p_rgf (f := some 38) (by decide +kernel : p_at 152 11 = some (.getfield 54)) (by decide +kernel : p_fld (p_own 152) 54 = some (5, 16)) (rfl : p_ob 24 = some (.inr (5, [some 25, some 26, none, none, none, some 27, some 28, some 29, some 30, some 31, some 32, some 33, some 34, some 35, some 36, some 37, some 38, some 39, none, none, some 40]))) rfl,
  fun _ _ _ _ => p_r (by decide +kernel : p_at 152 14 = some (.iload_n 1)) rfl,
  fun _ _ _ _ _ hp => p_riald (by decide +kernel : p_at 152 15 = some (.iaload)) (rfl : p_ob 38 = some (.inl (1, 32))) hp,
  fun _ _ _ _ _ => p_r (by decide +kernel : p_at 152 16 = some (.iconst 1)) rfl,
  fun _ _ _ _ _ _ => p_r (by decide +kernel : p_at 152 17 = some (.isub)) rfl,
  fun _ _ _ _ _ => p_r (by decide +kernel : p_at 152 18 = some (.lshl)) rfl,
  fun _ _ _ _ => p_rgo (by decide +kernel : p_at 152 19 = some (.goto 4)) (by decide +kernel),
  fun _ _ _ => p_r (by decide +kernel : p_at 152 22 = some (.lconst 0)) rfl,
  fun _ _ _ _ => p_r (by decide +kernel : p_at 152 23 = some (.lstore_n 2)) rfl,
  fun _ _ _ _ => p_r (by decide +kernel : p_at 152 24 = some (.aload_n 0)) rfl,
  fun _ _ _ _ => p_rgf (f := some 39) (by decide +kernel : p_at 152 25 = some (.getfield 57)) (by decide +kernel : p_fld (p_own 152) 57 = some (5, 17)) (rfl : p_ob 24 = some (.inr (5, [some 25, some 26, none, none, none, some 27, some 28, some 29, some 30, some 31, some 32, some 33, some 34, some 35, some 36, some 37, some 38, some 39, none, none, some 40]))) rfl,
  fun _ _ _ _ => p_r (by decide +kernel : p_at 152 28 = some (.iload_n 1)) rfl,
  fun _ _ _ _ _ hp => p_riald (by decide +kernel : p_at 152 29 = some (.iaload)) (rfl : p_ob 39 = some (.inl (1, 32))) hp,
  fun _ _ _ _ _ => p_r (by decide +kernel : p_at 152 30 = some (.i2l)) rfl,
  fun _ _ _ _ _ => p_r (by decide +kernel : p_at 152 31 = some (.aload_n 0)) rfl,
  fun _ _ _ _ _ => p_rgf (f := some 37) (by decide +kernel : p_at 152 32 = some (.getfield 51)) (by decide +kernel : p_fld (p_own 152) 51 = some (5, 15)) (rfl : p_ob 24 = some (.inr (5, [some 25, some 26, none, none, none, some 27, some 28, some 29, some 30, some 31, some 32, some 33, some 34, some 35, some 36, some 37, some 38, some 39, none, none, some 40]))) rfl,
  fun _ _ _ _ _ => p_r (by decide +kernel : p_at 152 35 = some (.iload_n 1)) rfl,
  fun _ _ _ _ _ _ hp => p_rlald (by decide +kernel : p_at 152 36 = some (.laload)) (rfl : p_ob 37 = some (.inl (2, 32))) hp,
  fun _ _ _ _ _ _ => p_r (by decide +kernel : p_at 152 37 = some (.lload_n 2)) rfl,
  fun _ _ _ _ _ _ _ => p_r (by decide +kernel : p_at 152 38 = some (.ladd)) rfl,
  fun _ _ _ _ _ _ => p_r (by decide +kernel : p_at 152 39 = some (.lmul)) rfl,
  fun _ _ _ _ _ => p_rlret (by decide +kernel : p_at 152 40 = some (.lreturn)) (by decide +kernel)⟩
-- 153: pour
theorem M153 :
  (∀ (scr : pX) (w : pW) (x1 : Int32) (x2 : Int32), p_ev scr 153 0 [.ref 24, .int x1, .int x2, p_U] [] w = p_ev scr 153 1 [.ref 24, .int x1, .int x2, p_U] [.int (nI 0)] w) ∧
  (∀ (scr : pX) (w : pW) (x1 : Int32) (x2 : Int32) (s0 : Int32), p_ev scr 153 1 [.ref 24, .int x1, .int x2, p_U] [.int s0] w = p_ev scr 153 2 [.ref 24, .int x1, .int x2, .int s0] [] w) ∧
  (∀ (scr : pX) (w : pW) (x1 : Int32) (x2 : Int32) (x3 : Int32) (s0 : Int32), p_ev scr 153 3 [.ref 24, .int x1, .int x2, .int x3] [.int s0] w = p_ev scr 153 4 [.ref 24, .int x1, .int x2, .int x3] [.ref 24, .int s0] w) ∧
  (∀ (scr : pX) (w : pW) (x1 : Int32) (x2 : Int32) (x3 : Int32) (s1 : Int32), p_ev scr 153 4 [.ref 24, .int x1, .int x2, .int x3] [.ref 24, .int s1] w = p_ev scr 153 5 [.ref 24, .int x1, .int x2, .int x3] [.int x2, .ref 24, .int s1] w) ∧
  (∀ (scr : pX) (w : pW) (x1 : Int32) (x2 : Int32) (x3 : Int32) (s0 : Int32) (s2 : Int32), p_ev scr 153 5 [.ref 24, .int x1, .int x2, .int x3] [.int s0, .ref 24, .int s2] w = p_bnd scr 153 5 8 [.ref 24, .int x1, .int x2, .int x3] [.int s2] (p_ev none 101 0 [.ref 24, .int s0, p_U, p_U] [] w)) ∧
  (∀ (scr : pX) (w : pW) (x1 : Int32) (x2 : Int32) (x3 : Int32) (s0 : Int32) (s1 : Int32), p_ev scr 153 8 [.ref 24, .int x1, .int x2, .int x3] [.int s0, .int s1] w = if s0 ≤ s1 then p_ev scr 153 35 [.ref 24, .int x1, .int x2, .int x3] [] w else p_ev scr 153 11 [.ref 24, .int x1, .int x2, .int x3] [] w) ∧
  (∀ (scr : pX) (w : pW) (x1 : Int32) (x2 : Int32) (x3 : Int32), p_ev scr 153 11 [.ref 24, .int x1, .int x2, .int x3] [] w = p_ev scr 153 12 [.ref 24, .int x1, .int x2, .int x3] [.ref 24] w) ∧
  (∀ (scr : pX) (w : pW) (x1 : Int32) (x2 : Int32) (x3 : Int32), p_ev scr 153 12 [.ref 24, .int x1, .int x2, .int x3] [.ref 24] w = p_ev scr 153 15 [.ref 24, .int x1, .int x2, .int x3] [.ref 29] w) ∧
  (∀ (scr : pX) (w : pW) (x1 : Int32) (x2 : Int32) (x3 : Int32), p_ev scr 153 15 [.ref 24, .int x1, .int x2, .int x3] [.ref 29] w = p_ev scr 153 17 [.ref 24, .int x1, .int x2, .int x3] [.int (nI 32), .ref 29] w) ∧
  (∀ (scr : pX) (w : pW) (x1 : Int32) (x2 : Int32) (x3 : Int32) (s0 : Int32), p_ev scr 153 17 [.ref 24, .int x1, .int x2, .int x3] [.int s0, .ref 29] w = p_ev scr 153 18 [.ref 24, .int x1, .int x2, .int x3] [.int x2, .int s0, .ref 29] w) ∧
  (∀ (scr : pX) (w : pW) (x1 : Int32) (x2 : Int32) (x3 : Int32) (s0 : Int32) (s1 : Int32), p_ev scr 153 18 [.ref 24, .int x1, .int x2, .int x3] [.int s0, .int s1, .ref 29] w = p_ev scr 153 19 [.ref 24, .int x1, .int x2, .int x3] [.int (s1 * s0), .ref 29] w) ∧
  (∀ (scr : pX) (w : pW) (x1 : Int32) (x2 : Int32) (x3 : Int32) (s0 : Int32), p_ev scr 153 19 [.ref 24, .int x1, .int x2, .int x3] [.int s0, .ref 29] w = p_ev scr 153 20 [.ref 24, .int x1, .int x2, .int x3] [.int x3, .int s0, .ref 29] w) ∧
  (∀ (scr : pX) (w : pW) (x1 : Int32) (x2 : Int32) (x3 : Int32) (s0 : Int32) (s1 : Int32), p_ev scr 153 20 [.ref 24, .int x1, .int x2, .int x3] [.int s0, .int s1, .ref 29] w = p_ev scr 153 21 [.ref 24, .int x1, .int x2, .int x3] [.int (s1 + s0), .ref 29] w) ∧
  (∀ (scr : pX) (w : pW) (x1 : Int32) (x2 : Int32) (x3 : Int32) (s0 : Int32), p_ev scr 153 21 [.ref 24, .int x1, .int x2, .int x3] [.int s0, .ref 29] w = p_ev scr 153 22 [.ref 24, .int x1, .int x2, .int x3] [.ref 24, .int s0, .ref 29] w) ∧
  (∀ (scr : pX) (w : pW) (x1 : Int32) (x2 : Int32) (x3 : Int32) (s1 : Int32), p_ev scr 153 22 [.ref 24, .int x1, .int x2, .int x3] [.ref 24, .int s1, .ref 29] w = p_ev scr 153 23 [.ref 24, .int x1, .int x2, .int x3] [.int x1, .ref 24, .int s1, .ref 29] w) ∧
  (∀ (scr : pX) (w : pW) (x1 : Int32) (x2 : Int32) (x3 : Int32) (s0 : Int32) (s2 : Int32), p_ev scr 153 23 [.ref 24, .int x1, .int x2, .int x3] [.int s0, .ref 24, .int s2, .ref 29] w = p_ev scr 153 24 [.ref 24, .int x1, .int x2, .int x3] [.int x3, .int s0, .ref 24, .int s2, .ref 29] w) ∧
  (∀ (scr : pX) (w : pW) (x1 : Int32) (x2 : Int32) (x3 : Int32) (s0 : Int32) (s1 : Int32) (s3 : Int32), p_ev scr 153 24 [.ref 24, .int x1, .int x2, .int x3] [.int s0, .int s1, .ref 24, .int s3, .ref 29] w = p_ev scr 153 25 [.ref 24, .int x1, .int x2, .int x3] [.int (s1 + s0), .ref 24, .int s3, .ref 29] w) ∧
  (∀ (scr : pX) (w : pW) (x1 : Int32) (x2 : Int32) (x3 : Int32) (s0 : Int32) (s2 : Int32), p_ev scr 153 25 [.ref 24, .int x1, .int x2, .int x3] [.int s0, .ref 24, .int s2, .ref 29] w = p_bnd scr 153 25 28 [.ref 24, .int x1, .int x2, .int x3] [.int s2, .ref 29] (p_ev none 152 0 [.ref 24, .int s0, p_U, p_U] [] w)) ∧
  (∀ (scr : pX) (w : pW) (x1 : Int32) (x2 : Int32) (x3 : Int32) (t0 : Int64) (s1 : Int32), p_out s1 512 = false → p_ev scr 153 28 [.ref 24, .int x1, .int x2, .int x3] [.long t0, .int s1, .ref 29] w = p_ev scr 153 29 [.ref 24, .int x1, .int x2, .int x3] [] (w.1, p_u w.2.1 29 s1.toNatClampNeg t0, w.2.2)) ∧
  (∀ (scr : pX) (w : pW) (x1 : Int32) (x2 : Int32) (x3 : Int32), p_ev scr 153 29 [.ref 24, .int x1, .int x2, .int x3] [] w = p_ev scr 153 32 [.ref 24, .int x1, .int x2, .int (x3 + (nI 1))] [] w) ∧
  (∀ (scr : pX) (w : pW) (x1 : Int32) (x2 : Int32) (x3 : Int32), p_ev scr 153 32 [.ref 24, .int x1, .int x2, .int x3] [] w = p_ev scr 153 2 [.ref 24, .int x1, .int x2, .int x3] [] w) ∧
  (∀ (scr : pX) (w : pW) (x1 : Int32) (x2 : Int32) (x3 : Int32), p_ev scr 153 35 [.ref 24, .int x1, .int x2, .int x3] [] w = p_ev scr 153 36 [.ref 24, .int x1, .int x2, .int x3] [.int x1] w) ∧
  (∀ (scr : pX) (w : pW) (x1 : Int32) (x2 : Int32) (x3 : Int32) (s0 : Int32), p_ev scr 153 36 [.ref 24, .int x1, .int x2, .int x3] [.int s0] w = p_ev scr 153 37 [.ref 24, .int x1, .int x2, .int x3] [.ref 24, .int s0] w) ∧
  (∀ (scr : pX) (w : pW) (x1 : Int32) (x2 : Int32) (x3 : Int32) (s1 : Int32), p_ev scr 153 37 [.ref 24, .int x1, .int x2, .int x3] [.ref 24, .int s1] w = p_ev scr 153 38 [.ref 24, .int x1, .int x2, .int x3] [.int x2, .ref 24, .int s1] w) ∧
  (∀ (scr : pX) (w : pW) (x1 : Int32) (x2 : Int32) (x3 : Int32) (s0 : Int32) (s2 : Int32), p_ev scr 153 38 [.ref 24, .int x1, .int x2, .int x3] [.int s0, .ref 24, .int s2] w = p_bnd scr 153 38 41 [.ref 24, .int x1, .int x2, .int x3] [.int s2] (p_ev none 101 0 [.ref 24, .int s0, p_U, p_U] [] w)) ∧
  (∀ (scr : pX) (w : pW) (x1 : Int32) (x2 : Int32) (x3 : Int32) (s0 : Int32) (s1 : Int32), p_ev scr 153 41 [.ref 24, .int x1, .int x2, .int x3] [.int s0, .int s1] w = p_ev scr 153 42 [.ref 24, .int x1, .int x2, .int x3] [.int (s1 + s0)] w) ∧
  (∀ (scr : pX) (w : pW) (x1 : Int32) (x2 : Int32) (x3 : Int32) (s0 : Int32), p_ev scr 153 42 [.ref 24, .int x1, .int x2, .int x3] [.int s0] w = some (.inl (some (.int s0)), w, 0)) :=
  ⟨fun _ _ _ _ => p_r (by decide +kernel : p_at 153 0 = some (.iconst 0)) rfl,
  fun _ _ _ _ _ => p_r (by decide +kernel : p_at 153 1 = some (.istore_n 3)) rfl,
  fun _ _ _ _ _ _ => p_r (by decide +kernel : p_at 153 3 = some (.aload_n 0)) rfl,
  fun _ _ _ _ _ _ => p_r (by decide +kernel : p_at 153 4 = some (.iload_n 2)) rfl,
  fun _ _ _ _ _ _ _ => p_rcv (nl := 4) (by decide +kernel : p_at 153 5 = some (.invokevirtual 113)) (by decide +kernel : p_inv (p_own 153) 113 = some (1, 101, 2)) (by decide +kernel) (rfl : p_ob 24 = some (.inr (5, [some 25, some 26, none, none, none, some 27, some 28, some 29, some 30, some 31, some 32, some 33, some 34, some 35, some 36, some 37, some 38, some 39, none, none, some 40]))) rfl rfl (Nat.le_of_ble_eq_true rfl) (Nat.le_of_ble_eq_true rfl) (Nat.le_of_ble_eq_true rfl) rfl,
  fun _ _ _ _ _ _ _ => p_rb2 (c := fun x y => decide (y ≤ x)) (off := 27) (by decide +kernel : p_at 153 8 = some (.if_icmp .ge 27)) (by decide +kernel) rfl rfl rfl,
  fun _ _ _ _ _ => p_r (by decide +kernel : p_at 153 11 = some (.aload_n 0)) rfl,
  fun _ _ _ _ _ => p_rgf (f := some 29) (by decide +kernel : p_at 153 12 = some (.getfield 27)) (by decide +kernel : p_fld (p_own 153) 27 = some (5, 7)) (rfl : p_ob 24 = some (.inr (5, [some 25, some 26, none, none, none, some 27, some 28, some 29, some 30, some 31, some 32, some 33, some 34, some 35, some 36, some 37, some 38, some 39, none, none, some 40]))) rfl,
  fun _ _ _ _ _ => p_r (by decide +kernel : p_at 153 15 = some (.bipush 32)) rfl,
  fun _ _ _ _ _ _ => p_r (by decide +kernel : p_at 153 17 = some (.iload_n 2)) rfl,
  fun _ _ _ _ _ _ _ => p_r (by decide +kernel : p_at 153 18 = some (.imul)) rfl,
  fun _ _ _ _ _ _ => p_r (by decide +kernel : p_at 153 19 = some (.iload_n 3)) rfl,
  fun _ _ _ _ _ _ _ => p_r (by decide +kernel : p_at 153 20 = some (.iadd)) rfl,
  fun _ _ _ _ _ _ => p_r (by decide +kernel : p_at 153 21 = some (.aload_n 0)) rfl,
  fun _ _ _ _ _ _ => p_r (by decide +kernel : p_at 153 22 = some (.iload_n 1)) rfl,
  fun _ _ _ _ _ _ _ => p_r (by decide +kernel : p_at 153 23 = some (.iload_n 3)) rfl,
  fun _ _ _ _ _ _ _ _ => p_r (by decide +kernel : p_at 153 24 = some (.iadd)) rfl,
  fun _ _ _ _ _ _ _ => p_rcv (nl := 4) (by decide +kernel : p_at 153 25 = some (.invokevirtual 208)) (by decide +kernel : p_inv (p_own 153) 208 = some (1, 152, 2)) (by decide +kernel) (rfl : p_ob 24 = some (.inr (5, [some 25, some 26, none, none, none, some 27, some 28, some 29, some 30, some 31, some 32, some 33, some 34, some 35, some 36, some 37, some 38, some 39, none, none, some 40]))) rfl rfl (Nat.le_of_ble_eq_true rfl) (Nat.le_of_ble_eq_true rfl) (Nat.le_of_ble_eq_true rfl) rfl,
  fun _ _ _ _ _ _ _ hp => p_rlast (by decide +kernel : p_at 153 28 = some (.lastore)) (rfl : p_ob 29 = some (.inl (2, 512))) hp,
  fun _ _ _ _ _ => p_r (by decide +kernel : p_at 153 29 = some (.iinc 3 1)) rfl,
  fun _ _ _ _ _ => p_rgo (by decide +kernel : p_at 153 32 = some (.goto (-30))) (by decide +kernel),
  fun _ _ _ _ _ => p_r (by decide +kernel : p_at 153 35 = some (.iload_n 1)) rfl,
  fun _ _ _ _ _ _ => p_r (by decide +kernel : p_at 153 36 = some (.aload_n 0)) rfl,
  fun _ _ _ _ _ _ => p_r (by decide +kernel : p_at 153 37 = some (.iload_n 2)) rfl,
  fun _ _ _ _ _ _ _ => p_rcv (nl := 4) (by decide +kernel : p_at 153 38 = some (.invokevirtual 113)) (by decide +kernel : p_inv (p_own 153) 113 = some (1, 101, 2)) (by decide +kernel) (rfl : p_ob 24 = some (.inr (5, [some 25, some 26, none, none, none, some 27, some 28, some 29, some 30, some 31, some 32, some 33, some 34, some 35, some 36, some 37, some 38, some 39, none, none, some 40]))) rfl rfl (Nat.le_of_ble_eq_true rfl) (Nat.le_of_ble_eq_true rfl) (Nat.le_of_ble_eq_true rfl) rfl,
  fun _ _ _ _ _ _ _ => p_r (by decide +kernel : p_at 153 41 = some (.iadd)) rfl,
  fun _ _ _ _ _ _ => p_riret (by decide +kernel : p_at 153 42 = some (.ireturn)) (by decide +kernel)⟩
theorem H153_2 :
  (∀ (scr : pX) (w : pW) (x1 : Int32) (x2 : Int32) (x3 : Int32), p_ev scr 153 2 [.ref 24, .int x1, .int x2, .int x3] [] w = p_ev scr 153 3 [.ref 24, .int x1, .int x2, .int x3] [.int x3] w) :=
  fun _ _ _ _ _ => p_r (by decide +kernel : p_at 153 2 = some (.iload_n 3)) rfl
-- 154: layBack
theorem M154 :
  (∀ (scr : pX) (w : pW), p_ev scr 154 0 [.ref 24, p_U, p_U] [] w = p_ev scr 154 1 [.ref 24, p_U, p_U] [.ref 24] w) ∧
  (∀ (scr : pX) (w : pW), p_ev scr 154 1 [.ref 24, p_U, p_U] [.ref 24] w = p_ev scr 154 2 [.ref 24, p_U, p_U] [.int (nI 0), .ref 24] w) ∧
  (∀ (scr : pX) (w : pW) (s0 : Int32), p_ev scr 154 2 [.ref 24, p_U, p_U] [.int s0, .ref 24] w = p_ev scr 154 3 [.ref 24, p_U, p_U] [.ref 24, .int s0, .ref 24] w) ∧
  (∀ (scr : pX) (w : pW) (s1 : Int32), p_ev scr 154 3 [.ref 24, p_U, p_U] [.ref 24, .int s1, .ref 24] w = p_ev scr 154 6 [.ref 24, p_U, p_U] [.int (w.1 24 19), .int s1, .ref 24] w) ∧
  (∀ (scr : pX) (w : pW) (s0 : Int32) (s1 : Int32), p_ev scr 154 6 [.ref 24, p_U, p_U] [.int s0, .int s1, .ref 24] w = p_bnd scr 154 6 9 [.ref 24, p_U, p_U] [] (p_ev none 153 0 [.ref 24, .int s1, .int s0, p_U] [] w)) ∧
  (∀ (scr : pX) (w : pW) (s0 : Int32), p_ev scr 154 9 [.ref 24, p_U, p_U] [.int s0] w = p_ev scr 154 10 [.ref 24, .int s0, p_U] [] w) ∧
  (∀ (scr : pX) (w : pW) (x1 : Int32), p_ev scr 154 10 [.ref 24, .int x1, p_U] [] w = p_ev scr 154 11 [.ref 24, .int x1, p_U] [.ref 24] w) ∧
  (∀ (scr : pX) (w : pW) (x1 : Int32), p_ev scr 154 11 [.ref 24, .int x1, p_U] [.ref 24] w = p_ev scr 154 14 [.ref 24, .int x1, p_U] [.int (w.1 24 19)] w) ∧
  (∀ (scr : pX) (w : pW) (x1 : Int32) (s0 : Int32), p_ev scr 154 14 [.ref 24, .int x1, p_U] [.int s0] w = p_ev scr 154 15 [.ref 24, .int x1, .int s0] [] w) ∧
  (∀ (scr : pX) (w : pW) (x1 : Int32) (x2 : Int32) (s0 : Int32), p_ev scr 154 16 [.ref 24, .int x1, .int x2] [.int s0] w = p_ev scr 154 17 [.ref 24, .int x1, .int x2] [.int (nI 1), .int s0] w) ∧
  (∀ (scr : pX) (w : pW) (x1 : Int32) (x2 : Int32) (s0 : Int32) (s1 : Int32), p_ev scr 154 17 [.ref 24, .int x1, .int x2] [.int s0, .int s1] w = if s1 ≤ s0 then p_ev scr 154 36 [.ref 24, .int x1, .int x2] [] w else p_ev scr 154 20 [.ref 24, .int x1, .int x2] [] w) ∧
  (∀ (scr : pX) (w : pW) (x1 : Int32) (x2 : Int32), p_ev scr 154 20 [.ref 24, .int x1, .int x2] [] w = p_ev scr 154 21 [.ref 24, .int x1, .int x2] [.ref 24] w) ∧
  (∀ (scr : pX) (w : pW) (x1 : Int32) (x2 : Int32), p_ev scr 154 21 [.ref 24, .int x1, .int x2] [.ref 24] w = p_ev scr 154 22 [.ref 24, .int x1, .int x2] [.int x1, .ref 24] w) ∧
  (∀ (scr : pX) (w : pW) (x1 : Int32) (x2 : Int32) (s0 : Int32), p_ev scr 154 22 [.ref 24, .int x1, .int x2] [.int s0, .ref 24] w = p_ev scr 154 23 [.ref 24, .int x1, .int x2] [.int x2, .int s0, .ref 24] w) ∧
  (∀ (scr : pX) (w : pW) (x1 : Int32) (x2 : Int32) (s0 : Int32) (s1 : Int32), p_ev scr 154 23 [.ref 24, .int x1, .int x2] [.int s0, .int s1, .ref 24] w = p_ev scr 154 24 [.ref 24, .int x1, .int x2] [.int (nI 1), .int s0, .int s1, .ref 24] w) ∧
  (∀ (scr : pX) (w : pW) (x1 : Int32) (x2 : Int32) (s0 : Int32) (s1 : Int32) (s2 : Int32), p_ev scr 154 24 [.ref 24, .int x1, .int x2] [.int s0, .int s1, .int s2, .ref 24] w = p_ev scr 154 25 [.ref 24, .int x1, .int x2] [.int (s1 + s0), .int s2, .ref 24] w) ∧
  (∀ (scr : pX) (w : pW) (x1 : Int32) (x2 : Int32) (s0 : Int32) (s1 : Int32), p_ev scr 154 25 [.ref 24, .int x1, .int x2] [.int s0, .int s1, .ref 24] w = p_bnd scr 154 25 28 [.ref 24, .int x1, .int x2] [] (p_ev none 153 0 [.ref 24, .int s1, .int s0, p_U] [] w)) ∧
  (∀ (scr : pX) (w : pW) (x1 : Int32) (x2 : Int32) (s0 : Int32), p_ev scr 154 28 [.ref 24, .int x1, .int x2] [.int s0] w = p_ev scr 154 29 [.ref 24, .int s0, .int x2] [] w) ∧
  (∀ (scr : pX) (w : pW) (x1 : Int32) (x2 : Int32), p_ev scr 154 29 [.ref 24, .int x1, .int x2] [] w = p_ev scr 154 30 [.ref 24, .int x1, .int x2] [.int x2] w) ∧
  (∀ (scr : pX) (w : pW) (x1 : Int32) (x2 : Int32) (s0 : Int32), p_ev scr 154 30 [.ref 24, .int x1, .int x2] [.int s0] w = p_ev scr 154 31 [.ref 24, .int x1, .int x2] [.int (nI 2), .int s0] w) ∧
  (∀ (scr : pX) (w : pW) (x1 : Int32) (x2 : Int32) (s0 : Int32) (s1 : Int32), ¬ s0 = 0 → p_ev scr 154 31 [.ref 24, .int x1, .int x2] [.int s0, .int s1] w = p_ev scr 154 32 [.ref 24, .int x1, .int x2] [.int (s1 / s0)] w) ∧
  (∀ (scr : pX) (w : pW) (x1 : Int32) (x2 : Int32) (s0 : Int32), p_ev scr 154 32 [.ref 24, .int x1, .int x2] [.int s0] w = p_ev scr 154 33 [.ref 24, .int x1, .int s0] [] w) ∧
  (∀ (scr : pX) (w : pW) (x1 : Int32) (x2 : Int32), p_ev scr 154 33 [.ref 24, .int x1, .int x2] [] w = p_ev scr 154 15 [.ref 24, .int x1, .int x2] [] w) ∧
  (∀ (scr : pX) (w : pW) (x1 : Int32) (x2 : Int32), p_ev scr 154 36 [.ref 24, .int x1, .int x2] [] w = p_ev scr 154 37 [.ref 24, .int x1, .int x2] [.ref 24] w) ∧
  (∀ (scr : pX) (w : pW) (x1 : Int32) (x2 : Int32), p_ev scr 154 37 [.ref 24, .int x1, .int x2] [.ref 24] w = p_ev scr 154 38 [.ref 24, .int x1, .int x2] [.ref 24, .ref 24] w) ∧
  (∀ (scr : pX) (w : pW) (x1 : Int32) (x2 : Int32), p_ev scr 154 38 [.ref 24, .int x1, .int x2] [.ref 24, .ref 24] w = p_ev scr 154 41 [.ref 24, .int x1, .int x2] [.ref 29, .ref 24] w) ∧
  (∀ (scr : pX) (w : pW) (x1 : Int32) (x2 : Int32), p_ev scr 154 41 [.ref 24, .int x1, .int x2] [.ref 29, .ref 24] w = p_bnd scr 154 41 44 [.ref 24, .int x1, .int x2] [] (p_ev none 112 0 [.ref 24, .ref 29, p_U] [] w)) ∧
  (∀ (scr : pX) (w : pW) (x1 : Int32) (x2 : Int32), p_ev scr 154 44 [.ref 24, .int x1, .int x2] [] w = some (.inl none, w, 0)) :=
  ⟨fun _ _ => p_r (by decide +kernel : p_at 154 0 = some (.aload_n 0)) rfl,
  fun _ _ => p_r (by decide +kernel : p_at 154 1 = some (.iconst 0)) rfl,
  fun _ _ _ => p_r (by decide +kernel : p_at 154 2 = some (.aload_n 0)) rfl,
  fun _ _ _ => p_rgf (f := none) (by decide +kernel : p_at 154 3 = some (.getfield 179)) (by decide +kernel : p_fld (p_own 154) 179 = some (5, 19)) (rfl : p_ob 24 = some (.inr (5, [some 25, some 26, none, none, none, some 27, some 28, some 29, some 30, some 31, some 32, some 33, some 34, some 35, some 36, some 37, some 38, some 39, none, none, some 40]))) rfl,
  fun _ _ _ _ => p_rcv (nl := 4) (by decide +kernel : p_at 154 6 = some (.invokevirtual 211)) (by decide +kernel : p_inv (p_own 154) 211 = some (1, 153, 3)) (by decide +kernel) (rfl : p_ob 24 = some (.inr (5, [some 25, some 26, none, none, none, some 27, some 28, some 29, some 30, some 31, some 32, some 33, some 34, some 35, some 36, some 37, some 38, some 39, none, none, some 40]))) rfl rfl (Nat.le_of_ble_eq_true rfl) (Nat.le_of_ble_eq_true rfl) (Nat.le_of_ble_eq_true rfl) rfl,
  fun _ _ _ => p_r (by decide +kernel : p_at 154 9 = some (.istore_n 1)) rfl,
  fun _ _ _ => p_r (by decide +kernel : p_at 154 10 = some (.aload_n 0)) rfl,
  fun _ _ _ => p_rgf (f := none) (by decide +kernel : p_at 154 11 = some (.getfield 179)) (by decide +kernel : p_fld (p_own 154) 179 = some (5, 19)) (rfl : p_ob 24 = some (.inr (5, [some 25, some 26, none, none, none, some 27, some 28, some 29, some 30, some 31, some 32, some 33, some 34, some 35, some 36, some 37, some 38, some 39, none, none, some 40]))) rfl,
  fun _ _ _ _ => p_r (by decide +kernel : p_at 154 14 = some (.istore_n 2)) rfl,
  fun _ _ _ _ _ => p_r (by decide +kernel : p_at 154 16 = some (.iconst 1)) rfl,
  fun _ _ _ _ _ _ => p_rb2 (c := fun x y => decide (x ≤ y)) (off := 19) (by decide +kernel : p_at 154 17 = some (.if_icmp .le 19)) (by decide +kernel) rfl rfl rfl,
  fun _ _ _ _ => p_r (by decide +kernel : p_at 154 20 = some (.aload_n 0)) rfl,
  fun _ _ _ _ => p_r (by decide +kernel : p_at 154 21 = some (.iload_n 1)) rfl,
  fun _ _ _ _ _ => p_r (by decide +kernel : p_at 154 22 = some (.iload_n 2)) rfl,
  fun _ _ _ _ _ _ => p_r (by decide +kernel : p_at 154 23 = some (.iconst 1)) rfl,
  fun _ _ _ _ _ _ _ => p_r (by decide +kernel : p_at 154 24 = some (.iadd)) rfl,
  fun _ _ _ _ _ _ => p_rcv (nl := 4) (by decide +kernel : p_at 154 25 = some (.invokevirtual 211)) (by decide +kernel : p_inv (p_own 154) 211 = some (1, 153, 3)) (by decide +kernel) (rfl : p_ob 24 = some (.inr (5, [some 25, some 26, none, none, none, some 27, some 28, some 29, some 30, some 31, some 32, some 33, some 34, some 35, some 36, some 37, some 38, some 39, none, none, some 40]))) rfl rfl (Nat.le_of_ble_eq_true rfl) (Nat.le_of_ble_eq_true rfl) (Nat.le_of_ble_eq_true rfl) rfl,
  fun _ _ _ _ _ => p_r (by decide +kernel : p_at 154 28 = some (.istore_n 1)) rfl,
  fun _ _ _ _ => p_r (by decide +kernel : p_at 154 29 = some (.iload_n 2)) rfl,
  fun _ _ _ _ _ => p_r (by decide +kernel : p_at 154 30 = some (.iconst 2)) rfl,
  fun _ _ _ _ _ _ hp => p_ridiv (by decide +kernel : p_at 154 31 = some (.idiv)) hp,
  fun _ _ _ _ _ => p_r (by decide +kernel : p_at 154 32 = some (.istore_n 2)) rfl,
  fun _ _ _ _ => p_rgo (by decide +kernel : p_at 154 33 = some (.goto (-18))) (by decide +kernel),
  fun _ _ _ _ => p_r (by decide +kernel : p_at 154 36 = some (.aload_n 0)) rfl,
  fun _ _ _ _ => p_r (by decide +kernel : p_at 154 37 = some (.aload_n 0)) rfl,
  fun _ _ _ _ => p_rgf (f := some 29) (by decide +kernel : p_at 154 38 = some (.getfield 27)) (by decide +kernel : p_fld (p_own 154) 27 = some (5, 7)) (rfl : p_ob 24 = some (.inr (5, [some 25, some 26, none, none, none, some 27, some 28, some 29, some 30, some 31, some 32, some 33, some 34, some 35, some 36, some 37, some 38, some 39, none, none, some 40]))) rfl,
  fun _ _ _ _ => p_rcv (nl := 3) (by decide +kernel : p_at 154 41 = some (.invokevirtual 128)) (by decide +kernel : p_inv (p_own 154) 128 = some (1, 112, 2)) (by decide +kernel) (rfl : p_ob 24 = some (.inr (5, [some 25, some 26, none, none, none, some 27, some 28, some 29, some 30, some 31, some 32, some 33, some 34, some 35, some 36, some 37, some 38, some 39, none, none, some 40]))) rfl rfl (Nat.le_of_ble_eq_true rfl) (Nat.le_of_ble_eq_true rfl) (Nat.le_of_ble_eq_true rfl) rfl,
  fun _ _ _ _ => p_rvret (by decide +kernel : p_at 154 44 = some (.return_)) (by decide +kernel)⟩
theorem H154_15 :
  (∀ (scr : pX) (w : pW) (x1 : Int32) (x2 : Int32), p_ev scr 154 15 [.ref 24, .int x1, .int x2] [] w = p_ev scr 154 16 [.ref 24, .int x1, .int x2] [.int x2] w) :=
  fun _ _ _ _ => p_r (by decide +kernel : p_at 154 15 = some (.iload_n 2)) rfl
-- 155: bits
theorem M155 :
  (∀ (scr : pX) (w : pW), p_ev scr 155 0 [.ref 24] [] w = p_ev scr 155 1 [.ref 24] [.ref 24] w) ∧
  (∀ (scr : pX) (w : pW), p_ev scr 155 1 [.ref 24] [.ref 24] w = p_ev scr 155 2 [.ref 24] [.int (nI 0), .ref 24] w) ∧
  (∀ (scr : pX) (w : pW) (s0 : Int32), p_ev scr 155 2 [.ref 24] [.int s0, .ref 24] w = p_ev scr 155 5 [.ref 24] [] (p_u w.1 24 4 s0, w.2)) ∧
  (∀ (scr : pX) (w : pW), p_ev scr 155 5 [.ref 24] [] w = p_ev scr 155 6 [.ref 24] [.ref 24] w) ∧
  (∀ (scr : pX) (w : pW), p_ev scr 155 6 [.ref 24] [.ref 24] w = p_bnd scr 155 6 9 [.ref 24] [] (p_ev none 140 0 [.ref 24, p_U, p_U] [] w)) ∧
  (∀ (scr : pX) (w : pW) (s0 : Int32), p_ev scr 155 9 [.ref 24] [.int s0] w = if ¬ s0 = nI 0 then p_ev scr 155 18 [.ref 24] [] w else p_ev scr 155 12 [.ref 24] [] w) ∧
  (∀ (scr : pX) (w : pW), p_ev scr 155 12 [.ref 24] [] w = p_ev scr 155 13 [.ref 24] [.ref 24] w) ∧
  (∀ (scr : pX) (w : pW), p_ev scr 155 13 [.ref 24] [.ref 24] w = p_ev scr 155 14 [.ref 24] [.int (nI 1), .ref 24] w) ∧
  (∀ (scr : pX) (w : pW) (s0 : Int32), p_ev scr 155 14 [.ref 24] [.int s0, .ref 24] w = p_bnd scr 155 14 17 [.ref 24] [] (p_ev none 96 0 [.ref 24, .int s0] [] w)) ∧
  (∀ (scr : pX) (w : pW) (s0 : Int32), p_ev scr 155 17 [.ref 24] [.int s0] w = some (.inl (some (.int s0)), w, 0)) ∧
  (∀ (scr : pX) (w : pW), p_ev scr 155 18 [.ref 24] [] w = p_ev scr 155 19 [.ref 24] [.ref 24] w) ∧
  (∀ (scr : pX) (w : pW), p_ev scr 155 19 [.ref 24] [.ref 24] w = p_bnd scr 155 19 22 [.ref 24] [] (p_ev none 149 0 [.ref 24, p_U, p_U, p_U, p_U, p_U, p_U] [] w)) ∧
  (∀ (scr : pX) (w : pW), p_ev scr 155 22 [.ref 24] [] w = p_ev scr 155 23 [.ref 24] [.ref 24] w) ∧
  (∀ (scr : pX) (w : pW), p_ev scr 155 23 [.ref 24] [.ref 24] w = p_ev scr 155 26 [.ref 24] [.int (w.1 24 18)] w) ∧
  (∀ (scr : pX) (w : pW) (s0 : Int32), p_ev scr 155 26 [.ref 24] [.int s0] w = some (.inl (some (.int s0)), w, 0)) :=
  ⟨fun _ _ => p_r (by decide +kernel : p_at 155 0 = some (.aload_n 0)) rfl,
  fun _ _ => p_r (by decide +kernel : p_at 155 1 = some (.iconst 0)) rfl,
  fun _ _ _ => p_rpf (by decide +kernel : p_at 155 2 = some (.putfield 63)) (by decide +kernel : p_fld (p_own 155) 63 = some (5, 4)) (rfl : p_ob 24 = some (.inr (5, [some 25, some 26, none, none, none, some 27, some 28, some 29, some 30, some 31, some 32, some 33, some 34, some 35, some 36, some 37, some 38, some 39, none, none, some 40]))) rfl,
  fun _ _ => p_r (by decide +kernel : p_at 155 5 = some (.aload_n 0)) rfl,
  fun _ _ => p_rcv (nl := 3) (by decide +kernel : p_at 155 6 = some (.invokevirtual 175)) (by decide +kernel : p_inv (p_own 155) 175 = some (1, 140, 1)) (by decide +kernel) (rfl : p_ob 24 = some (.inr (5, [some 25, some 26, none, none, none, some 27, some 28, some 29, some 30, some 31, some 32, some 33, some 34, some 35, some 36, some 37, some 38, some 39, none, none, some 40]))) rfl rfl (Nat.le_of_ble_eq_true rfl) (Nat.le_of_ble_eq_true rfl) (Nat.le_of_ble_eq_true rfl) rfl,
  fun _ _ _ => p_rb1 (c := fun x => decide (¬ x = 0)) (off := 9) (by decide +kernel : p_at 155 9 = some (.ifCond .ne 9)) (by decide +kernel) rfl rfl rfl,
  fun _ _ => p_r (by decide +kernel : p_at 155 12 = some (.aload_n 0)) rfl,
  fun _ _ => p_r (by decide +kernel : p_at 155 13 = some (.iconst 1)) rfl,
  fun _ _ _ => p_rcv (nl := 2) (by decide +kernel : p_at 155 14 = some (.invokevirtual 76)) (by decide +kernel : p_inv (p_own 155) 76 = some (1, 96, 2)) (by decide +kernel) (rfl : p_ob 24 = some (.inr (5, [some 25, some 26, none, none, none, some 27, some 28, some 29, some 30, some 31, some 32, some 33, some 34, some 35, some 36, some 37, some 38, some 39, none, none, some 40]))) rfl rfl (Nat.le_of_ble_eq_true rfl) (Nat.le_of_ble_eq_true rfl) (Nat.le_of_ble_eq_true rfl) rfl,
  fun _ _ _ => p_riret (by decide +kernel : p_at 155 17 = some (.ireturn)) (by decide +kernel),
  fun _ _ => p_r (by decide +kernel : p_at 155 18 = some (.aload_n 0)) rfl,
  fun _ _ => p_rcv (nl := 7) (by decide +kernel : p_at 155 19 = some (.invokevirtual 214)) (by decide +kernel : p_inv (p_own 155) 214 = some (1, 149, 1)) (by decide +kernel) (rfl : p_ob 24 = some (.inr (5, [some 25, some 26, none, none, none, some 27, some 28, some 29, some 30, some 31, some 32, some 33, some 34, some 35, some 36, some 37, some 38, some 39, none, none, some 40]))) rfl rfl (Nat.le_of_ble_eq_true rfl) (Nat.le_of_ble_eq_true rfl) (Nat.le_of_ble_eq_true rfl) rfl,
  fun _ _ => p_r (by decide +kernel : p_at 155 22 = some (.aload_n 0)) rfl,
  fun _ _ => p_rgf (f := none) (by decide +kernel : p_at 155 23 = some (.getfield 186)) (by decide +kernel : p_fld (p_own 155) 186 = some (5, 18)) (rfl : p_ob 24 = some (.inr (5, [some 25, some 26, none, none, none, some 27, some 28, some 29, some 30, some 31, some 32, some 33, some 34, some 35, some 36, some 37, some 38, some 39, none, none, some 40]))) rfl,
  fun _ _ _ => p_riret (by decide +kernel : p_at 155 26 = some (.ireturn)) (by decide +kernel)⟩
-- 156: bitAt
theorem M156 :
  (∀ (scr : pX) (w : pW) (x1 : Int32), p_ev scr 156 0 [.ref 24, .int x1] [] w = p_ev scr 156 1 [.ref 24, .int x1] [.ref 24] w) ∧
  (∀ (scr : pX) (w : pW) (x1 : Int32), p_ev scr 156 1 [.ref 24, .int x1] [.ref 24] w = p_ev scr 156 2 [.ref 24, .int x1] [.int (nI 0), .ref 24] w) ∧
  (∀ (scr : pX) (w : pW) (x1 : Int32) (s0 : Int32), p_ev scr 156 2 [.ref 24, .int x1] [.int s0, .ref 24] w = p_ev scr 156 5 [.ref 24, .int x1] [] (p_u w.1 24 4 s0, w.2)) ∧
  (∀ (scr : pX) (w : pW) (x1 : Int32), p_ev scr 156 5 [.ref 24, .int x1] [] w = p_ev scr 156 6 [.ref 24, .int x1] [.ref 24] w) ∧
  (∀ (scr : pX) (w : pW) (x1 : Int32), p_ev scr 156 6 [.ref 24, .int x1] [.ref 24] w = p_bnd scr 156 6 9 [.ref 24, .int x1] [] (p_ev none 140 0 [.ref 24, p_U, p_U] [] w)) ∧
  (∀ (scr : pX) (w : pW) (x1 : Int32) (s0 : Int32), p_ev scr 156 9 [.ref 24, .int x1] [.int s0] w = if ¬ s0 = nI 0 then p_ev scr 156 18 [.ref 24, .int x1] [] w else p_ev scr 156 12 [.ref 24, .int x1] [] w) ∧
  (∀ (scr : pX) (w : pW) (x1 : Int32), p_ev scr 156 12 [.ref 24, .int x1] [] w = p_ev scr 156 13 [.ref 24, .int x1] [.ref 24] w) ∧
  (∀ (scr : pX) (w : pW) (x1 : Int32), p_ev scr 156 13 [.ref 24, .int x1] [.ref 24] w = p_ev scr 156 14 [.ref 24, .int x1] [.int (nI 1), .ref 24] w) ∧
  (∀ (scr : pX) (w : pW) (x1 : Int32) (s0 : Int32), p_ev scr 156 14 [.ref 24, .int x1] [.int s0, .ref 24] w = p_bnd scr 156 14 17 [.ref 24, .int x1] [] (p_ev none 96 0 [.ref 24, .int s0] [] w)) ∧
  (∀ (scr : pX) (w : pW) (x1 : Int32) (s0 : Int32), p_ev scr 156 17 [.ref 24, .int x1] [.int s0] w = some (.inl (some (.int s0)), w, 0)) ∧
  (∀ (scr : pX) (w : pW) (x1 : Int32), p_ev scr 156 18 [.ref 24, .int x1] [] w = p_ev scr 156 19 [.ref 24, .int x1] [.ref 24] w) ∧
  (∀ (scr : pX) (w : pW) (x1 : Int32), p_ev scr 156 19 [.ref 24, .int x1] [.ref 24] w = p_bnd scr 156 19 22 [.ref 24, .int x1] [] (p_ev none 149 0 [.ref 24, p_U, p_U, p_U, p_U, p_U, p_U] [] w)) ∧
  (∀ (scr : pX) (w : pW) (x1 : Int32), p_ev scr 156 22 [.ref 24, .int x1] [] w = p_ev scr 156 23 [.ref 24, .int x1] [.int x1] w) ∧
  (∀ (scr : pX) (w : pW) (x1 : Int32) (s0 : Int32), p_ev scr 156 23 [.ref 24, .int x1] [.int s0] w = p_ev scr 156 24 [.ref 24, .int x1] [.int (nI 0), .int s0] w) ∧
  (∀ (scr : pX) (w : pW) (x1 : Int32) (s0 : Int32) (s1 : Int32), p_ev scr 156 24 [.ref 24, .int x1] [.int s0, .int s1] w = p_ev scr 156 25 [.ref 24, .int x1] [.ref 24, .int s0, .int s1] w) ∧
  (∀ (scr : pX) (w : pW) (x1 : Int32) (s1 : Int32) (s2 : Int32), p_ev scr 156 25 [.ref 24, .int x1] [.ref 24, .int s1, .int s2] w = p_ev scr 156 28 [.ref 24, .int x1] [.int (w.1 24 18), .int s1, .int s2] w) ∧
  (∀ (scr : pX) (w : pW) (x1 : Int32) (s0 : Int32) (s1 : Int32) (s2 : Int32), p_ev scr 156 28 [.ref 24, .int x1] [.int s0, .int s1, .int s2] w = p_ev scr 156 29 [.ref 24, .int x1] [.int (nI 1), .int s0, .int s1, .int s2] w) ∧
  (∀ (scr : pX) (w : pW) (x1 : Int32) (s0 : Int32) (s1 : Int32) (s2 : Int32) (s3 : Int32), p_ev scr 156 29 [.ref 24, .int x1] [.int s0, .int s1, .int s2, .int s3] w = p_ev scr 156 30 [.ref 24, .int x1] [.int (s1 - s0), .int s2, .int s3] w) ∧
  (∀ (scr : pX) (w : pW) (x1 : Int32) (s0 : Int32) (s1 : Int32) (s2 : Int32), p_ev scr 156 30 [.ref 24, .int x1] [.int s0, .int s1, .int s2] w = p_bnd scr 156 30 33 [.ref 24, .int x1] [] (p_ev none 97 0 [.int s2, .int s1, .int s0] [] w)) ∧
  (∀ (scr : pX) (w : pW) (x1 : Int32) (s0 : Int32), p_ev scr 156 33 [.ref 24, .int x1] [.int s0] w = if s0 = nI 0 then p_ev scr 156 45 [.ref 24, .int x1] [] w else p_ev scr 156 36 [.ref 24, .int x1] [] w) ∧
  (∀ (scr : pX) (w : pW) (x1 : Int32), p_ev scr 156 36 [.ref 24, .int x1] [] w = p_ev scr 156 37 [.ref 24, .int x1] [.ref 24] w) ∧
  (∀ (scr : pX) (w : pW) (x1 : Int32), p_ev scr 156 37 [.ref 24, .int x1] [.ref 24] w = p_ev scr 156 40 [.ref 24, .int x1] [.ref 34] w) ∧
  (∀ (scr : pX) (w : pW) (x1 : Int32), p_ev scr 156 40 [.ref 24, .int x1] [.ref 34] w = p_ev scr 156 41 [.ref 24, .int x1] [.int x1, .ref 34] w) ∧
  (∀ (scr : pX) (w : pW) (x1 : Int32) (s0 : Int32), p_out s0 4100 = false → p_ev scr 156 41 [.ref 24, .int x1] [.int s0, .ref 34] w = p_ev scr 156 42 [.ref 24, .int x1] [.int (w.2.2 34 s0.toNatClampNeg)] w) ∧
  (∀ (scr : pX) (w : pW) (x1 : Int32) (s0 : Int32), p_ev scr 156 42 [.ref 24, .int x1] [.int s0] w = p_ev scr 156 50 [.ref 24, .int x1] [.int s0] w) ∧
  (∀ (scr : pX) (w : pW) (x1 : Int32), p_ev scr 156 45 [.ref 24, .int x1] [] w = p_ev scr 156 46 [.ref 24, .int x1] [.ref 24] w) ∧
  (∀ (scr : pX) (w : pW) (x1 : Int32), p_ev scr 156 46 [.ref 24, .int x1] [.ref 24] w = p_ev scr 156 47 [.ref 24, .int x1] [.int (nI 2), .ref 24] w) ∧
  (∀ (scr : pX) (w : pW) (x1 : Int32) (s0 : Int32), p_ev scr 156 47 [.ref 24, .int x1] [.int s0, .ref 24] w = p_bnd scr 156 47 50 [.ref 24, .int x1] [] (p_ev none 96 0 [.ref 24, .int s0] [] w)) ∧
  (∀ (scr : pX) (w : pW) (x1 : Int32) (s0 : Int32), p_ev scr 156 50 [.ref 24, .int x1] [.int s0] w = some (.inl (some (.int s0)), w, 0)) :=
  ⟨fun _ _ _ => p_r (by decide +kernel : p_at 156 0 = some (.aload_n 0)) rfl,
  fun _ _ _ => p_r (by decide +kernel : p_at 156 1 = some (.iconst 0)) rfl,
  fun _ _ _ _ => p_rpf (by decide +kernel : p_at 156 2 = some (.putfield 63)) (by decide +kernel : p_fld (p_own 156) 63 = some (5, 4)) (rfl : p_ob 24 = some (.inr (5, [some 25, some 26, none, none, none, some 27, some 28, some 29, some 30, some 31, some 32, some 33, some 34, some 35, some 36, some 37, some 38, some 39, none, none, some 40]))) rfl,
  fun _ _ _ => p_r (by decide +kernel : p_at 156 5 = some (.aload_n 0)) rfl,
  fun _ _ _ => p_rcv (nl := 3) (by decide +kernel : p_at 156 6 = some (.invokevirtual 175)) (by decide +kernel : p_inv (p_own 156) 175 = some (1, 140, 1)) (by decide +kernel) (rfl : p_ob 24 = some (.inr (5, [some 25, some 26, none, none, none, some 27, some 28, some 29, some 30, some 31, some 32, some 33, some 34, some 35, some 36, some 37, some 38, some 39, none, none, some 40]))) rfl rfl (Nat.le_of_ble_eq_true rfl) (Nat.le_of_ble_eq_true rfl) (Nat.le_of_ble_eq_true rfl) rfl,
  fun _ _ _ _ => p_rb1 (c := fun x => decide (¬ x = 0)) (off := 9) (by decide +kernel : p_at 156 9 = some (.ifCond .ne 9)) (by decide +kernel) rfl rfl rfl,
  fun _ _ _ => p_r (by decide +kernel : p_at 156 12 = some (.aload_n 0)) rfl,
  fun _ _ _ => p_r (by decide +kernel : p_at 156 13 = some (.iconst 1)) rfl,
  fun _ _ _ _ => p_rcv (nl := 2) (by decide +kernel : p_at 156 14 = some (.invokevirtual 76)) (by decide +kernel : p_inv (p_own 156) 76 = some (1, 96, 2)) (by decide +kernel) (rfl : p_ob 24 = some (.inr (5, [some 25, some 26, none, none, none, some 27, some 28, some 29, some 30, some 31, some 32, some 33, some 34, some 35, some 36, some 37, some 38, some 39, none, none, some 40]))) rfl rfl (Nat.le_of_ble_eq_true rfl) (Nat.le_of_ble_eq_true rfl) (Nat.le_of_ble_eq_true rfl) rfl,
  fun _ _ _ _ => p_riret (by decide +kernel : p_at 156 17 = some (.ireturn)) (by decide +kernel),
  fun _ _ _ => p_r (by decide +kernel : p_at 156 18 = some (.aload_n 0)) rfl,
  fun _ _ _ => p_rcv (nl := 7) (by decide +kernel : p_at 156 19 = some (.invokevirtual 214)) (by decide +kernel : p_inv (p_own 156) 214 = some (1, 149, 1)) (by decide +kernel) (rfl : p_ob 24 = some (.inr (5, [some 25, some 26, none, none, none, some 27, some 28, some 29, some 30, some 31, some 32, some 33, some 34, some 35, some 36, some 37, some 38, some 39, none, none, some 40]))) rfl rfl (Nat.le_of_ble_eq_true rfl) (Nat.le_of_ble_eq_true rfl) (Nat.le_of_ble_eq_true rfl) rfl,
  fun _ _ _ => p_r (by decide +kernel : p_at 156 22 = some (.iload_n 1)) rfl,
  fun _ _ _ _ => p_r (by decide +kernel : p_at 156 23 = some (.iconst 0)) rfl,
  fun _ _ _ _ _ => p_r (by decide +kernel : p_at 156 24 = some (.aload_n 0)) rfl,
  fun _ _ _ _ _ => p_rgf (f := none) (by decide +kernel : p_at 156 25 = some (.getfield 186)) (by decide +kernel : p_fld (p_own 156) 186 = some (5, 18)) (rfl : p_ob 24 = some (.inr (5, [some 25, some 26, none, none, none, some 27, some 28, some 29, some 30, some 31, some 32, some 33, some 34, some 35, some 36, some 37, some 38, some 39, none, none, some 40]))) rfl,
  fun _ _ _ _ _ _ => p_r (by decide +kernel : p_at 156 28 = some (.iconst 1)) rfl,
  fun _ _ _ _ _ _ _ => p_r (by decide +kernel : p_at 156 29 = some (.isub)) rfl,
  fun _ _ _ _ _ _ => p_rcs (nl := 3) (by decide +kernel : p_at 156 30 = some (.invokestatic 72)) (by decide +kernel : p_inv (p_own 156) 72 = some (1, 97, 3)) (by decide +kernel) rfl rfl (Nat.le_of_ble_eq_true rfl) (Nat.le_of_ble_eq_true rfl) (Nat.le_of_ble_eq_true rfl) rfl,
  fun _ _ _ _ => p_rb1 (c := fun x => decide (x = 0)) (off := 12) (by decide +kernel : p_at 156 33 = some (.ifCond .eq 12)) (by decide +kernel) rfl rfl rfl,
  fun _ _ _ => p_r (by decide +kernel : p_at 156 36 = some (.aload_n 0)) rfl,
  fun _ _ _ => p_rgf (f := some 34) (by decide +kernel : p_at 156 37 = some (.getfield 42)) (by decide +kernel : p_fld (p_own 156) 42 = some (5, 12)) (rfl : p_ob 24 = some (.inr (5, [some 25, some 26, none, none, none, some 27, some 28, some 29, some 30, some 31, some 32, some 33, some 34, some 35, some 36, some 37, some 38, some 39, none, none, some 40]))) rfl,
  fun _ _ _ => p_r (by decide +kernel : p_at 156 40 = some (.iload_n 1)) rfl,
  fun _ _ _ _ hp => p_riald (by decide +kernel : p_at 156 41 = some (.iaload)) (rfl : p_ob 34 = some (.inl (1, 4100))) hp,
  fun _ _ _ _ => p_rgo (by decide +kernel : p_at 156 42 = some (.goto 8)) (by decide +kernel),
  fun _ _ _ => p_r (by decide +kernel : p_at 156 45 = some (.aload_n 0)) rfl,
  fun _ _ _ => p_r (by decide +kernel : p_at 156 46 = some (.iconst 2)) rfl,
  fun _ _ _ _ => p_rcv (nl := 2) (by decide +kernel : p_at 156 47 = some (.invokevirtual 76)) (by decide +kernel : p_inv (p_own 156) 76 = some (1, 96, 2)) (by decide +kernel) (rfl : p_ob 24 = some (.inr (5, [some 25, some 26, none, none, none, some 27, some 28, some 29, some 30, some 31, some 32, some 33, some 34, some 35, some 36, some 37, some 38, some 39, none, none, some 40]))) rfl rfl (Nat.le_of_ble_eq_true rfl) (Nat.le_of_ble_eq_true rfl) (Nat.le_of_ble_eq_true rfl) rfl,
  fun _ _ _ _ => p_riret (by decide +kernel : p_at 156 50 = some (.ireturn)) (by decide +kernel)⟩
-- 157: learnFirst
theorem M157 :
  (∀ (scr : pX) (w : pW) (x1 : Int32), p_ev scr 157 0 [.ref 24, .int x1, p_U] [] w = p_ev scr 157 1 [.ref 24, .int x1, p_U] [.ref 24] w) ∧
  (∀ (scr : pX) (w : pW) (x1 : Int32), p_ev scr 157 1 [.ref 24, .int x1, p_U] [.ref 24] w = p_bnd scr 157 1 4 [.ref 24, .int x1, p_U] [] (p_ev none 149 0 [.ref 24, p_U, p_U, p_U, p_U, p_U, p_U] [] w)) ∧
  (∀ (scr : pX) (w : pW) (x1 : Int32), p_ev scr 157 4 [.ref 24, .int x1, p_U] [] w = p_ev scr 157 5 [.ref 24, .int x1, p_U] [.ref 24] w) ∧
  (∀ (scr : pX) (w : pW) (x1 : Int32), p_ev scr 157 5 [.ref 24, .int x1, p_U] [.ref 24] w = p_bnd scr 157 5 8 [.ref 24, .int x1, p_U] [] (p_ev none 150 0 [.ref 24, p_U] [] w)) ∧
  (∀ (scr : pX) (w : pW) (x1 : Int32), p_ev scr 157 8 [.ref 24, .int x1, p_U] [] w = p_ev scr 157 9 [.ref 24, .int x1, p_U] [.int (nI 0)] w) ∧
  (∀ (scr : pX) (w : pW) (x1 : Int32) (s0 : Int32), p_ev scr 157 9 [.ref 24, .int x1, p_U] [.int s0] w = p_ev scr 157 10 [.ref 24, .int x1, .int s0] [] w) ∧
  (∀ (scr : pX) (w : pW) (x1 : Int32) (x2 : Int32) (s0 : Int32), p_ev scr 157 11 [.ref 24, .int x1, .int x2] [.int s0] w = p_ev scr 157 12 [.ref 24, .int x1, .int x2] [.int x1, .int s0] w) ∧
  (∀ (scr : pX) (w : pW) (x1 : Int32) (x2 : Int32) (s0 : Int32) (s1 : Int32), p_ev scr 157 12 [.ref 24, .int x1, .int x2] [.int s0, .int s1] w = if s0 ≤ s1 then p_ev scr 157 34 [.ref 24, .int x1, .int x2] [] w else p_ev scr 157 15 [.ref 24, .int x1, .int x2] [] w) ∧
  (∀ (scr : pX) (w : pW) (x1 : Int32) (x2 : Int32), p_ev scr 157 15 [.ref 24, .int x1, .int x2] [] w = p_ev scr 157 16 [.ref 24, .int x1, .int x2] [.int x2] w) ∧
  (∀ (scr : pX) (w : pW) (x1 : Int32) (x2 : Int32) (s0 : Int32), p_ev scr 157 16 [.ref 24, .int x1, .int x2] [.int s0] w = p_ev scr 157 17 [.ref 24, .int x1, .int x2] [.ref 24, .int s0] w) ∧
  (∀ (scr : pX) (w : pW) (x1 : Int32) (x2 : Int32) (s1 : Int32), p_ev scr 157 17 [.ref 24, .int x1, .int x2] [.ref 24, .int s1] w = p_ev scr 157 20 [.ref 24, .int x1, .int x2] [.int (w.1 24 18), .int s1] w) ∧
  (∀ (scr : pX) (w : pW) (x1 : Int32) (x2 : Int32) (s0 : Int32) (s1 : Int32), p_ev scr 157 20 [.ref 24, .int x1, .int x2] [.int s0, .int s1] w = if s0 ≤ s1 then p_ev scr 157 34 [.ref 24, .int x1, .int x2] [] w else p_ev scr 157 23 [.ref 24, .int x1, .int x2] [] w) ∧
  (∀ (scr : pX) (w : pW) (x1 : Int32) (x2 : Int32), p_ev scr 157 23 [.ref 24, .int x1, .int x2] [] w = p_ev scr 157 24 [.ref 24, .int x1, .int x2] [.ref 24] w) ∧
  (∀ (scr : pX) (w : pW) (x1 : Int32) (x2 : Int32), p_ev scr 157 24 [.ref 24, .int x1, .int x2] [.ref 24] w = p_ev scr 157 25 [.ref 24, .int x1, .int x2] [.int x2, .ref 24] w) ∧
  (∀ (scr : pX) (w : pW) (x1 : Int32) (x2 : Int32) (s0 : Int32), p_ev scr 157 25 [.ref 24, .int x1, .int x2] [.int s0, .ref 24] w = p_bnd scr 157 25 28 [.ref 24, .int x1, .int x2] [] (p_ev none 151 0 [.ref 24, .int s0, p_U, p_U, p_U] [] w)) ∧
  (∀ (scr : pX) (w : pW) (x1 : Int32) (x2 : Int32), p_ev scr 157 28 [.ref 24, .int x1, .int x2] [] w = p_ev scr 157 31 [.ref 24, .int x1, .int (x2 + (nI 1))] [] w) ∧
  (∀ (scr : pX) (w : pW) (x1 : Int32) (x2 : Int32), p_ev scr 157 31 [.ref 24, .int x1, .int x2] [] w = p_ev scr 157 10 [.ref 24, .int x1, .int x2] [] w) ∧
  (∀ (scr : pX) (w : pW) (x1 : Int32) (x2 : Int32), p_ev scr 157 34 [.ref 24, .int x1, .int x2] [] w = p_ev scr 157 35 [.ref 24, .int x1, .int x2] [.ref 24] w) ∧
  (∀ (scr : pX) (w : pW) (x1 : Int32) (x2 : Int32), p_ev scr 157 35 [.ref 24, .int x1, .int x2] [.ref 24] w = p_bnd scr 157 35 38 [.ref 24, .int x1, .int x2] [] (p_ev none 154 0 [.ref 24, p_U, p_U] [] w)) ∧
  (∀ (scr : pX) (w : pW) (x1 : Int32) (x2 : Int32), p_ev scr 157 38 [.ref 24, .int x1, .int x2] [] w = some (.inl none, w, 0)) :=
  ⟨fun _ _ _ => p_r (by decide +kernel : p_at 157 0 = some (.aload_n 0)) rfl,
  fun _ _ _ => p_rcv (nl := 7) (by decide +kernel : p_at 157 1 = some (.invokevirtual 214)) (by decide +kernel : p_inv (p_own 157) 214 = some (1, 149, 1)) (by decide +kernel) (rfl : p_ob 24 = some (.inr (5, [some 25, some 26, none, none, none, some 27, some 28, some 29, some 30, some 31, some 32, some 33, some 34, some 35, some 36, some 37, some 38, some 39, none, none, some 40]))) rfl rfl (Nat.le_of_ble_eq_true rfl) (Nat.le_of_ble_eq_true rfl) (Nat.le_of_ble_eq_true rfl) rfl,
  fun _ _ _ => p_r (by decide +kernel : p_at 157 4 = some (.aload_n 0)) rfl,
  fun _ _ _ => p_rcv (nl := 2) (by decide +kernel : p_at 157 5 = some (.invokevirtual 217)) (by decide +kernel : p_inv (p_own 157) 217 = some (1, 150, 1)) (by decide +kernel) (rfl : p_ob 24 = some (.inr (5, [some 25, some 26, none, none, none, some 27, some 28, some 29, some 30, some 31, some 32, some 33, some 34, some 35, some 36, some 37, some 38, some 39, none, none, some 40]))) rfl rfl (Nat.le_of_ble_eq_true rfl) (Nat.le_of_ble_eq_true rfl) (Nat.le_of_ble_eq_true rfl) rfl,
  fun _ _ _ => p_r (by decide +kernel : p_at 157 8 = some (.iconst 0)) rfl,
  fun _ _ _ _ => p_r (by decide +kernel : p_at 157 9 = some (.istore_n 2)) rfl,
  fun _ _ _ _ _ => p_r (by decide +kernel : p_at 157 11 = some (.iload_n 1)) rfl,
  fun _ _ _ _ _ _ => p_rb2 (c := fun x y => decide (y ≤ x)) (off := 22) (by decide +kernel : p_at 157 12 = some (.if_icmp .ge 22)) (by decide +kernel) rfl rfl rfl,
  fun _ _ _ _ => p_r (by decide +kernel : p_at 157 15 = some (.iload_n 2)) rfl,
  fun _ _ _ _ _ => p_r (by decide +kernel : p_at 157 16 = some (.aload_n 0)) rfl,
  fun _ _ _ _ _ => p_rgf (f := none) (by decide +kernel : p_at 157 17 = some (.getfield 186)) (by decide +kernel : p_fld (p_own 157) 186 = some (5, 18)) (rfl : p_ob 24 = some (.inr (5, [some 25, some 26, none, none, none, some 27, some 28, some 29, some 30, some 31, some 32, some 33, some 34, some 35, some 36, some 37, some 38, some 39, none, none, some 40]))) rfl,
  fun _ _ _ _ _ _ => p_rb2 (c := fun x y => decide (y ≤ x)) (off := 14) (by decide +kernel : p_at 157 20 = some (.if_icmp .ge 14)) (by decide +kernel) rfl rfl rfl,
  fun _ _ _ _ => p_r (by decide +kernel : p_at 157 23 = some (.aload_n 0)) rfl,
  fun _ _ _ _ => p_r (by decide +kernel : p_at 157 24 = some (.iload_n 2)) rfl,
  fun _ _ _ _ _ => p_rcv (nl := 5) (by decide +kernel : p_at 157 25 = some (.invokevirtual 220)) (by decide +kernel : p_inv (p_own 157) 220 = some (1, 151, 2)) (by decide +kernel) (rfl : p_ob 24 = some (.inr (5, [some 25, some 26, none, none, none, some 27, some 28, some 29, some 30, some 31, some 32, some 33, some 34, some 35, some 36, some 37, some 38, some 39, none, none, some 40]))) rfl rfl (Nat.le_of_ble_eq_true rfl) (Nat.le_of_ble_eq_true rfl) (Nat.le_of_ble_eq_true rfl) rfl,
  fun _ _ _ _ => p_r (by decide +kernel : p_at 157 28 = some (.iinc 2 1)) rfl,
  fun _ _ _ _ => p_rgo (by decide +kernel : p_at 157 31 = some (.goto (-21))) (by decide +kernel),
  fun _ _ _ _ => p_r (by decide +kernel : p_at 157 34 = some (.aload_n 0)) rfl,
  fun _ _ _ _ => p_rcv (nl := 3) (by decide +kernel : p_at 157 35 = some (.invokevirtual 224)) (by decide +kernel : p_inv (p_own 157) 224 = some (1, 154, 1)) (by decide +kernel) (rfl : p_ob 24 = some (.inr (5, [some 25, some 26, none, none, none, some 27, some 28, some 29, some 30, some 31, some 32, some 33, some 34, some 35, some 36, some 37, some 38, some 39, none, none, some 40]))) rfl rfl (Nat.le_of_ble_eq_true rfl) (Nat.le_of_ble_eq_true rfl) (Nat.le_of_ble_eq_true rfl) rfl,
  fun _ _ _ _ => p_rvret (by decide +kernel : p_at 157 38 = some (.return_)) (by decide +kernel)⟩
theorem H157_10 :
  (∀ (scr : pX) (w : pW) (x1 : Int32) (x2 : Int32), p_ev scr 157 10 [.ref 24, .int x1, .int x2] [] w = p_ev scr 157 11 [.ref 24, .int x1, .int x2] [.int x2] w) :=
  fun _ _ _ _ => p_r (by decide +kernel : p_at 157 10 = some (.iload_n 2)) rfl
-- 158: broughtBack
theorem M158 :
  (∀ (scr : pX) (w : pW) (x1 : Int32) (x2 : Int32), p_ev scr 158 0 [.ref 24, .int x1, .int x2] [] w = p_ev scr 158 1 [.ref 24, .int x1, .int x2] [.ref 24] w) ∧
  (∀ (scr : pX) (w : pW) (x1 : Int32) (x2 : Int32), p_ev scr 158 1 [.ref 24, .int x1, .int x2] [.ref 24] w = p_ev scr 158 2 [.ref 24, .int x1, .int x2] [.int (nI 0), .ref 24] w) ∧
  (∀ (scr : pX) (w : pW) (x1 : Int32) (x2 : Int32) (s0 : Int32), p_ev scr 158 2 [.ref 24, .int x1, .int x2] [.int s0, .ref 24] w = p_ev scr 158 5 [.ref 24, .int x1, .int x2] [] (p_u w.1 24 4 s0, w.2)) ∧
  (∀ (scr : pX) (w : pW) (x1 : Int32) (x2 : Int32), p_ev scr 158 5 [.ref 24, .int x1, .int x2] [] w = p_ev scr 158 6 [.ref 24, .int x1, .int x2] [.ref 24] w) ∧
  (∀ (scr : pX) (w : pW) (x1 : Int32) (x2 : Int32), p_ev scr 158 6 [.ref 24, .int x1, .int x2] [.ref 24] w = p_bnd scr 158 6 9 [.ref 24, .int x1, .int x2] [] (p_ev none 140 0 [.ref 24, p_U, p_U] [] w)) ∧
  (∀ (scr : pX) (w : pW) (x1 : Int32) (x2 : Int32) (s0 : Int32), p_ev scr 158 9 [.ref 24, .int x1, .int x2] [.int s0] w = if ¬ s0 = nI 0 then p_ev scr 158 19 [.ref 24, .int x1, .int x2] [] w else p_ev scr 158 12 [.ref 24, .int x1, .int x2] [] w) ∧
  (∀ (scr : pX) (w : pW) (x1 : Int32) (x2 : Int32), p_ev scr 158 12 [.ref 24, .int x1, .int x2] [] w = p_ev scr 158 13 [.ref 24, .int x1, .int x2] [.ref 24] w) ∧
  (∀ (scr : pX) (w : pW) (x1 : Int32) (x2 : Int32), p_ev scr 158 13 [.ref 24, .int x1, .int x2] [.ref 24] w = p_ev scr 158 14 [.ref 24, .int x1, .int x2] [.int (nI 1), .ref 24] w) ∧
  (∀ (scr : pX) (w : pW) (x1 : Int32) (x2 : Int32) (s0 : Int32), p_ev scr 158 14 [.ref 24, .int x1, .int x2] [.int s0, .ref 24] w = p_bnd scr 158 14 17 [.ref 24, .int x1, .int x2] [] (p_ev none 96 0 [.ref 24, .int s0] [] w)) ∧
  (∀ (scr : pX) (w : pW) (x1 : Int32) (x2 : Int32) (s0 : Int32), p_ev scr 158 17 [.ref 24, .int x1, .int x2] [.int s0] w = p_ev scr 158 18 [.ref 24, .int x1, .int x2] [.long s0.toInt64] w) ∧
  (∀ (scr : pX) (w : pW) (x1 : Int32) (x2 : Int32) (t0 : Int64), p_ev scr 158 18 [.ref 24, .int x1, .int x2] [.long t0] w = some (.inl (some (.long t0)), w, 0)) ∧
  (∀ (scr : pX) (w : pW) (x1 : Int32) (x2 : Int32), p_ev scr 158 19 [.ref 24, .int x1, .int x2] [] w = p_ev scr 158 20 [.ref 24, .int x1, .int x2] [.int x1] w) ∧
  (∀ (scr : pX) (w : pW) (x1 : Int32) (x2 : Int32) (s0 : Int32), p_ev scr 158 20 [.ref 24, .int x1, .int x2] [.int s0] w = if nI 0 ≤ s0 then p_ev scr 158 30 [.ref 24, .int x1, .int x2] [] w else p_ev scr 158 23 [.ref 24, .int x1, .int x2] [] w) ∧
  (∀ (scr : pX) (w : pW) (x1 : Int32) (x2 : Int32), p_ev scr 158 23 [.ref 24, .int x1, .int x2] [] w = p_ev scr 158 24 [.ref 24, .int x1, .int x2] [.ref 24] w) ∧
  (∀ (scr : pX) (w : pW) (x1 : Int32) (x2 : Int32), p_ev scr 158 24 [.ref 24, .int x1, .int x2] [.ref 24] w = p_ev scr 158 25 [.ref 24, .int x1, .int x2] [.int (nI 2), .ref 24] w) ∧
  (∀ (scr : pX) (w : pW) (x1 : Int32) (x2 : Int32) (s0 : Int32), p_ev scr 158 25 [.ref 24, .int x1, .int x2] [.int s0, .ref 24] w = p_bnd scr 158 25 28 [.ref 24, .int x1, .int x2] [] (p_ev none 96 0 [.ref 24, .int s0] [] w)) ∧
  (∀ (scr : pX) (w : pW) (x1 : Int32) (x2 : Int32) (s0 : Int32), p_ev scr 158 28 [.ref 24, .int x1, .int x2] [.int s0] w = p_ev scr 158 29 [.ref 24, .int x1, .int x2] [.long s0.toInt64] w) ∧
  (∀ (scr : pX) (w : pW) (x1 : Int32) (x2 : Int32) (t0 : Int64), p_ev scr 158 29 [.ref 24, .int x1, .int x2] [.long t0] w = some (.inl (some (.long t0)), w, 0)) ∧
  (∀ (scr : pX) (w : pW) (x1 : Int32) (x2 : Int32), p_ev scr 158 30 [.ref 24, .int x1, .int x2] [] w = p_ev scr 158 31 [.ref 24, .int x1, .int x2] [.int x2] w) ∧
  (∀ (scr : pX) (w : pW) (x1 : Int32) (x2 : Int32) (s0 : Int32), p_ev scr 158 31 [.ref 24, .int x1, .int x2] [.int s0] w = p_ev scr 158 32 [.ref 24, .int x1, .int x2] [.int (nI 0), .int s0] w) ∧
  (∀ (scr : pX) (w : pW) (x1 : Int32) (x2 : Int32) (s0 : Int32) (s1 : Int32), p_ev scr 158 32 [.ref 24, .int x1, .int x2] [.int s0, .int s1] w = p_ev scr 158 33 [.ref 24, .int x1, .int x2] [.ref 24, .int s0, .int s1] w) ∧
  (∀ (scr : pX) (w : pW) (x1 : Int32) (x2 : Int32) (s1 : Int32) (s2 : Int32), p_ev scr 158 33 [.ref 24, .int x1, .int x2] [.ref 24, .int s1, .int s2] w = p_ev scr 158 36 [.ref 24, .int x1, .int x2] [.int (w.1 24 2), .int s1, .int s2] w) ∧
  (∀ (scr : pX) (w : pW) (x1 : Int32) (x2 : Int32) (s0 : Int32) (s1 : Int32) (s2 : Int32), p_ev scr 158 36 [.ref 24, .int x1, .int x2] [.int s0, .int s1, .int s2] w = p_ev scr 158 37 [.ref 24, .int x1, .int x2] [.int (nI 1), .int s0, .int s1, .int s2] w) ∧
  (∀ (scr : pX) (w : pW) (x1 : Int32) (x2 : Int32) (s0 : Int32) (s1 : Int32) (s2 : Int32) (s3 : Int32), p_ev scr 158 37 [.ref 24, .int x1, .int x2] [.int s0, .int s1, .int s2, .int s3] w = p_ev scr 158 38 [.ref 24, .int x1, .int x2] [.int (s1 - s0), .int s2, .int s3] w) ∧
  (∀ (scr : pX) (w : pW) (x1 : Int32) (x2 : Int32) (s0 : Int32) (s1 : Int32) (s2 : Int32), p_ev scr 158 38 [.ref 24, .int x1, .int x2] [.int s0, .int s1, .int s2] w = p_bnd scr 158 38 41 [.ref 24, .int x1, .int x2] [] (p_ev none 97 0 [.int s2, .int s1, .int s0] [] w)) ∧
  (∀ (scr : pX) (w : pW) (x1 : Int32) (x2 : Int32) (s0 : Int32), p_ev scr 158 41 [.ref 24, .int x1, .int x2] [.int s0] w = if ¬ s0 = nI 0 then p_ev scr 158 51 [.ref 24, .int x1, .int x2] [] w else p_ev scr 158 44 [.ref 24, .int x1, .int x2] [] w) ∧
  (∀ (scr : pX) (w : pW) (x1 : Int32) (x2 : Int32), p_ev scr 158 44 [.ref 24, .int x1, .int x2] [] w = p_ev scr 158 45 [.ref 24, .int x1, .int x2] [.ref 24] w) ∧
  (∀ (scr : pX) (w : pW) (x1 : Int32) (x2 : Int32), p_ev scr 158 45 [.ref 24, .int x1, .int x2] [.ref 24] w = p_ev scr 158 46 [.ref 24, .int x1, .int x2] [.int (nI 3), .ref 24] w) ∧
  (∀ (scr : pX) (w : pW) (x1 : Int32) (x2 : Int32) (s0 : Int32), p_ev scr 158 46 [.ref 24, .int x1, .int x2] [.int s0, .ref 24] w = p_bnd scr 158 46 49 [.ref 24, .int x1, .int x2] [] (p_ev none 96 0 [.ref 24, .int s0] [] w)) ∧
  (∀ (scr : pX) (w : pW) (x1 : Int32) (x2 : Int32) (s0 : Int32), p_ev scr 158 49 [.ref 24, .int x1, .int x2] [.int s0] w = p_ev scr 158 50 [.ref 24, .int x1, .int x2] [.long s0.toInt64] w) ∧
  (∀ (scr : pX) (w : pW) (x1 : Int32) (x2 : Int32) (t0 : Int64), p_ev scr 158 50 [.ref 24, .int x1, .int x2] [.long t0] w = some (.inl (some (.long t0)), w, 0)) ∧
  (∀ (scr : pX) (w : pW) (x1 : Int32) (x2 : Int32), p_ev scr 158 51 [.ref 24, .int x1, .int x2] [] w = p_ev scr 158 52 [.ref 24, .int x1, .int x2] [.ref 24] w) ∧
  (∀ (scr : pX) (w : pW) (x1 : Int32) (x2 : Int32), p_ev scr 158 52 [.ref 24, .int x1, .int x2] [.ref 24] w = p_ev scr 158 53 [.ref 24, .int x1, .int x2] [.int x1, .ref 24] w) ∧
  (∀ (scr : pX) (w : pW) (x1 : Int32) (x2 : Int32) (s0 : Int32), p_ev scr 158 53 [.ref 24, .int x1, .int x2] [.int s0, .ref 24] w = p_bnd scr 158 53 56 [.ref 24, .int x1, .int x2] [] (p_ev none 157 0 [.ref 24, .int s0, p_U] [] w)) ∧
  (∀ (scr : pX) (w : pW) (x1 : Int32) (x2 : Int32), p_ev scr 158 56 [.ref 24, .int x1, .int x2] [] w = p_ev scr 158 57 [.ref 24, .int x1, .int x2] [.ref 24] w) ∧
  (∀ (scr : pX) (w : pW) (x1 : Int32) (x2 : Int32), p_ev scr 158 57 [.ref 24, .int x1, .int x2] [.ref 24] w = p_ev scr 158 60 [.ref 24, .int x1, .int x2] [.ref 29] w) ∧
  (∀ (scr : pX) (w : pW) (x1 : Int32) (x2 : Int32), p_ev scr 158 60 [.ref 24, .int x1, .int x2] [.ref 29] w = p_ev scr 158 62 [.ref 24, .int x1, .int x2] [.int (nI 32), .ref 29] w) ∧
  (∀ (scr : pX) (w : pW) (x1 : Int32) (x2 : Int32) (s0 : Int32), p_ev scr 158 62 [.ref 24, .int x1, .int x2] [.int s0, .ref 29] w = p_ev scr 158 63 [.ref 24, .int x1, .int x2] [.int x2, .int s0, .ref 29] w) ∧
  (∀ (scr : pX) (w : pW) (x1 : Int32) (x2 : Int32) (s0 : Int32) (s1 : Int32), p_ev scr 158 63 [.ref 24, .int x1, .int x2] [.int s0, .int s1, .ref 29] w = p_ev scr 158 64 [.ref 24, .int x1, .int x2] [.int (s1 + s0), .ref 29] w) ∧
  (∀ (scr : pX) (w : pW) (x1 : Int32) (x2 : Int32) (s0 : Int32), p_out s0 512 = false → p_ev scr 158 64 [.ref 24, .int x1, .int x2] [.int s0, .ref 29] w = p_ev scr 158 65 [.ref 24, .int x1, .int x2] [.long (w.2.1 29 s0.toNatClampNeg)] w) ∧
  (∀ (scr : pX) (w : pW) (x1 : Int32) (x2 : Int32) (t0 : Int64), p_ev scr 158 65 [.ref 24, .int x1, .int x2] [.long t0] w = some (.inl (some (.long t0)), w, 0)) :=
  ⟨fun _ _ _ _ => p_r (by decide +kernel : p_at 158 0 = some (.aload_n 0)) rfl,
  fun _ _ _ _ => p_r (by decide +kernel : p_at 158 1 = some (.iconst 0)) rfl,
  fun _ _ _ _ _ => p_rpf (by decide +kernel : p_at 158 2 = some (.putfield 63)) (by decide +kernel : p_fld (p_own 158) 63 = some (5, 4)) (rfl : p_ob 24 = some (.inr (5, [some 25, some 26, none, none, none, some 27, some 28, some 29, some 30, some 31, some 32, some 33, some 34, some 35, some 36, some 37, some 38, some 39, none, none, some 40]))) rfl,
  fun _ _ _ _ => p_r (by decide +kernel : p_at 158 5 = some (.aload_n 0)) rfl,
  fun _ _ _ _ => p_rcv (nl := 3) (by decide +kernel : p_at 158 6 = some (.invokevirtual 175)) (by decide +kernel : p_inv (p_own 158) 175 = some (1, 140, 1)) (by decide +kernel) (rfl : p_ob 24 = some (.inr (5, [some 25, some 26, none, none, none, some 27, some 28, some 29, some 30, some 31, some 32, some 33, some 34, some 35, some 36, some 37, some 38, some 39, none, none, some 40]))) rfl rfl (Nat.le_of_ble_eq_true rfl) (Nat.le_of_ble_eq_true rfl) (Nat.le_of_ble_eq_true rfl) rfl,
  fun _ _ _ _ _ => p_rb1 (c := fun x => decide (¬ x = 0)) (off := 10) (by decide +kernel : p_at 158 9 = some (.ifCond .ne 10)) (by decide +kernel) rfl rfl rfl,
  fun _ _ _ _ => p_r (by decide +kernel : p_at 158 12 = some (.aload_n 0)) rfl,
  fun _ _ _ _ => p_r (by decide +kernel : p_at 158 13 = some (.iconst 1)) rfl,
  fun _ _ _ _ _ => p_rcv (nl := 2) (by decide +kernel : p_at 158 14 = some (.invokevirtual 76)) (by decide +kernel : p_inv (p_own 158) 76 = some (1, 96, 2)) (by decide +kernel) (rfl : p_ob 24 = some (.inr (5, [some 25, some 26, none, none, none, some 27, some 28, some 29, some 30, some 31, some 32, some 33, some 34, some 35, some 36, some 37, some 38, some 39, none, none, some 40]))) rfl rfl (Nat.le_of_ble_eq_true rfl) (Nat.le_of_ble_eq_true rfl) (Nat.le_of_ble_eq_true rfl) rfl,
  fun _ _ _ _ _ => p_r (by decide +kernel : p_at 158 17 = some (.i2l)) rfl,
  fun _ _ _ _ _ => p_rlret (by decide +kernel : p_at 158 18 = some (.lreturn)) (by decide +kernel),
  fun _ _ _ _ => p_r (by decide +kernel : p_at 158 19 = some (.iload_n 1)) rfl,
  fun _ _ _ _ _ => p_rb1 (c := fun x => decide (0 ≤ x)) (off := 10) (by decide +kernel : p_at 158 20 = some (.ifCond .ge 10)) (by decide +kernel) rfl rfl rfl,
  fun _ _ _ _ => p_r (by decide +kernel : p_at 158 23 = some (.aload_n 0)) rfl,
  fun _ _ _ _ => p_r (by decide +kernel : p_at 158 24 = some (.iconst 2)) rfl,
  fun _ _ _ _ _ => p_rcv (nl := 2) (by decide +kernel : p_at 158 25 = some (.invokevirtual 76)) (by decide +kernel : p_inv (p_own 158) 76 = some (1, 96, 2)) (by decide +kernel) (rfl : p_ob 24 = some (.inr (5, [some 25, some 26, none, none, none, some 27, some 28, some 29, some 30, some 31, some 32, some 33, some 34, some 35, some 36, some 37, some 38, some 39, none, none, some 40]))) rfl rfl (Nat.le_of_ble_eq_true rfl) (Nat.le_of_ble_eq_true rfl) (Nat.le_of_ble_eq_true rfl) rfl,
  fun _ _ _ _ _ => p_r (by decide +kernel : p_at 158 28 = some (.i2l)) rfl,
  fun _ _ _ _ _ => p_rlret (by decide +kernel : p_at 158 29 = some (.lreturn)) (by decide +kernel),
  fun _ _ _ _ => p_r (by decide +kernel : p_at 158 30 = some (.iload_n 2)) rfl,
  fun _ _ _ _ _ => p_r (by decide +kernel : p_at 158 31 = some (.iconst 0)) rfl,
  fun _ _ _ _ _ _ => p_r (by decide +kernel : p_at 158 32 = some (.aload_n 0)) rfl,
  fun _ _ _ _ _ _ => p_rgf (f := none) (by decide +kernel : p_at 158 33 = some (.getfield 17)) (by decide +kernel : p_fld (p_own 158) 17 = some (5, 2)) (rfl : p_ob 24 = some (.inr (5, [some 25, some 26, none, none, none, some 27, some 28, some 29, some 30, some 31, some 32, some 33, some 34, some 35, some 36, some 37, some 38, some 39, none, none, some 40]))) rfl,
  fun _ _ _ _ _ _ _ => p_r (by decide +kernel : p_at 158 36 = some (.iconst 1)) rfl,
  fun _ _ _ _ _ _ _ _ => p_r (by decide +kernel : p_at 158 37 = some (.isub)) rfl,
  fun _ _ _ _ _ _ _ => p_rcs (nl := 3) (by decide +kernel : p_at 158 38 = some (.invokestatic 72)) (by decide +kernel : p_inv (p_own 158) 72 = some (1, 97, 3)) (by decide +kernel) rfl rfl (Nat.le_of_ble_eq_true rfl) (Nat.le_of_ble_eq_true rfl) (Nat.le_of_ble_eq_true rfl) rfl,
  fun _ _ _ _ _ => p_rb1 (c := fun x => decide (¬ x = 0)) (off := 10) (by decide +kernel : p_at 158 41 = some (.ifCond .ne 10)) (by decide +kernel) rfl rfl rfl,
  fun _ _ _ _ => p_r (by decide +kernel : p_at 158 44 = some (.aload_n 0)) rfl,
  fun _ _ _ _ => p_r (by decide +kernel : p_at 158 45 = some (.iconst 3)) rfl,
  fun _ _ _ _ _ => p_rcv (nl := 2) (by decide +kernel : p_at 158 46 = some (.invokevirtual 76)) (by decide +kernel : p_inv (p_own 158) 76 = some (1, 96, 2)) (by decide +kernel) (rfl : p_ob 24 = some (.inr (5, [some 25, some 26, none, none, none, some 27, some 28, some 29, some 30, some 31, some 32, some 33, some 34, some 35, some 36, some 37, some 38, some 39, none, none, some 40]))) rfl rfl (Nat.le_of_ble_eq_true rfl) (Nat.le_of_ble_eq_true rfl) (Nat.le_of_ble_eq_true rfl) rfl,
  fun _ _ _ _ _ => p_r (by decide +kernel : p_at 158 49 = some (.i2l)) rfl,
  fun _ _ _ _ _ => p_rlret (by decide +kernel : p_at 158 50 = some (.lreturn)) (by decide +kernel),
  fun _ _ _ _ => p_r (by decide +kernel : p_at 158 51 = some (.aload_n 0)) rfl,
  fun _ _ _ _ => p_r (by decide +kernel : p_at 158 52 = some (.iload_n 1)) rfl,
  fun _ _ _ _ _ => p_rcv (nl := 3) (by decide +kernel : p_at 158 53 = some (.invokevirtual 227)) (by decide +kernel : p_inv (p_own 158) 227 = some (1, 157, 2)) (by decide +kernel) (rfl : p_ob 24 = some (.inr (5, [some 25, some 26, none, none, none, some 27, some 28, some 29, some 30, some 31, some 32, some 33, some 34, some 35, some 36, some 37, some 38, some 39, none, none, some 40]))) rfl rfl (Nat.le_of_ble_eq_true rfl) (Nat.le_of_ble_eq_true rfl) (Nat.le_of_ble_eq_true rfl) rfl,
  fun _ _ _ _ => p_r (by decide +kernel : p_at 158 56 = some (.aload_n 0)) rfl,
  fun _ _ _ _ => p_rgf (f := some 29) (by decide +kernel : p_at 158 57 = some (.getfield 27)) (by decide +kernel : p_fld (p_own 158) 27 = some (5, 7)) (rfl : p_ob 24 = some (.inr (5, [some 25, some 26, none, none, none, some 27, some 28, some 29, some 30, some 31, some 32, some 33, some 34, some 35, some 36, some 37, some 38, some 39, none, none, some 40]))) rfl,
  fun _ _ _ _ => p_r (by decide +kernel : p_at 158 60 = some (.bipush 32)) rfl,
  fun _ _ _ _ _ => p_r (by decide +kernel : p_at 158 62 = some (.iload_n 2)) rfl,
  fun _ _ _ _ _ _ => p_r (by decide +kernel : p_at 158 63 = some (.iadd)) rfl,
  fun _ _ _ _ _ hp => p_rlald (by decide +kernel : p_at 158 64 = some (.laload)) (rfl : p_ob 29 = some (.inl (2, 512))) hp,
  fun _ _ _ _ _ => p_rlret (by decide +kernel : p_at 158 65 = some (.lreturn)) (by decide +kernel)⟩
-- 159: error
theorem M159 :
  (∀ (scr : pX) (w : pW), p_ev scr 159 0 [.ref 24, p_U, p_U, p_U] [] w = p_ev scr 159 1 [.ref 24, p_U, p_U, p_U] [.long (lN 0)] w) ∧
  (∀ (scr : pX) (w : pW) (t0 : Int64), p_ev scr 159 1 [.ref 24, p_U, p_U, p_U] [.long t0] w = p_ev scr 159 2 [.ref 24, .long t0, p_U, p_U] [] w) ∧
  (∀ (scr : pX) (w : pW) (y1 : Int64), p_ev scr 159 2 [.ref 24, .long y1, p_U, p_U] [] w = p_ev scr 159 3 [.ref 24, .long y1, p_U, p_U] [.int (nI 0)] w) ∧
  (∀ (scr : pX) (w : pW) (y1 : Int64) (s0 : Int32), p_ev scr 159 3 [.ref 24, .long y1, p_U, p_U] [.int s0] w = p_ev scr 159 4 [.ref 24, .long y1, p_U, .int s0] [] w) ∧
  (∀ (scr : pX) (w : pW) (y1 : Int64) (x3 : Int32) (s0 : Int32), p_ev scr 159 5 [.ref 24, .long y1, p_U, .int x3] [.int s0] w = p_ev scr 159 6 [.ref 24, .long y1, p_U, .int x3] [.ref 24, .int s0] w) ∧
  (∀ (scr : pX) (w : pW) (y1 : Int64) (x3 : Int32) (s1 : Int32), p_ev scr 159 6 [.ref 24, .long y1, p_U, .int x3] [.ref 24, .int s1] w = p_ev scr 159 9 [.ref 24, .long y1, p_U, .int x3] [.int (w.1 24 2), .int s1] w) ∧
  (∀ (scr : pX) (w : pW) (y1 : Int64) (x3 : Int32) (s0 : Int32) (s1 : Int32), p_ev scr 159 9 [.ref 24, .long y1, p_U, .int x3] [.int s0, .int s1] w = if s0 ≤ s1 then p_ev scr 159 40 [.ref 24, .long y1, p_U, .int x3] [] w else p_ev scr 159 12 [.ref 24, .long y1, p_U, .int x3] [] w) ∧
  (∀ (scr : pX) (w : pW) (y1 : Int64) (x3 : Int32), p_ev scr 159 12 [.ref 24, .long y1, p_U, .int x3] [] w = p_ev scr 159 13 [.ref 24, .long y1, p_U, .int x3] [.long y1] w) ∧
  (∀ (scr : pX) (w : pW) (y1 : Int64) (x3 : Int32) (t0 : Int64), p_ev scr 159 13 [.ref 24, .long y1, p_U, .int x3] [.long t0] w = p_ev scr 159 14 [.ref 24, .long y1, p_U, .int x3] [.ref 24, .long t0] w) ∧
  (∀ (scr : pX) (w : pW) (y1 : Int64) (x3 : Int32) (t1 : Int64), p_ev scr 159 14 [.ref 24, .long y1, p_U, .int x3] [.ref 24, .long t1] w = p_ev scr 159 17 [.ref 24, .long y1, p_U, .int x3] [.ref 29, .long t1] w) ∧
  (∀ (scr : pX) (w : pW) (y1 : Int64) (x3 : Int32) (t1 : Int64), p_ev scr 159 17 [.ref 24, .long y1, p_U, .int x3] [.ref 29, .long t1] w = p_ev scr 159 19 [.ref 24, .long y1, p_U, .int x3] [.int (nI 32), .ref 29, .long t1] w) ∧
  (∀ (scr : pX) (w : pW) (y1 : Int64) (x3 : Int32) (s0 : Int32) (t2 : Int64), p_ev scr 159 19 [.ref 24, .long y1, p_U, .int x3] [.int s0, .ref 29, .long t2] w = p_ev scr 159 20 [.ref 24, .long y1, p_U, .int x3] [.int x3, .int s0, .ref 29, .long t2] w) ∧
  (∀ (scr : pX) (w : pW) (y1 : Int64) (x3 : Int32) (s0 : Int32) (s1 : Int32) (t3 : Int64), p_ev scr 159 20 [.ref 24, .long y1, p_U, .int x3] [.int s0, .int s1, .ref 29, .long t3] w = p_ev scr 159 21 [.ref 24, .long y1, p_U, .int x3] [.int (s1 + s0), .ref 29, .long t3] w) ∧
  (∀ (scr : pX) (w : pW) (y1 : Int64) (x3 : Int32) (s0 : Int32) (t2 : Int64), p_out s0 512 = false → p_ev scr 159 21 [.ref 24, .long y1, p_U, .int x3] [.int s0, .ref 29, .long t2] w = p_ev scr 159 22 [.ref 24, .long y1, p_U, .int x3] [.long (w.2.1 29 s0.toNatClampNeg), .long t2] w) ∧
  (∀ (scr : pX) (w : pW) (y1 : Int64) (x3 : Int32) (t0 : Int64) (t1 : Int64), p_ev scr 159 22 [.ref 24, .long y1, p_U, .int x3] [.long t0, .long t1] w = p_ev scr 159 23 [.ref 24, .long y1, p_U, .int x3] [.ref 24, .long t0, .long t1] w) ∧
  (∀ (scr : pX) (w : pW) (y1 : Int64) (x3 : Int32) (t1 : Int64) (t2 : Int64), p_ev scr 159 23 [.ref 24, .long y1, p_U, .int x3] [.ref 24, .long t1, .long t2] w = p_ev scr 159 26 [.ref 24, .long y1, p_U, .int x3] [.ref 40, .long t1, .long t2] w) ∧
  (∀ (scr : pX) (w : pW) (y1 : Int64) (x3 : Int32) (t1 : Int64) (t2 : Int64), p_ev scr 159 26 [.ref 24, .long y1, p_U, .int x3] [.ref 40, .long t1, .long t2] w = p_ev scr 159 27 [.ref 24, .long y1, p_U, .int x3] [.int x3, .ref 40, .long t1, .long t2] w) ∧
  (∀ (scr : pX) (w : pW) (y1 : Int64) (x3 : Int32) (s0 : Int32) (t2 : Int64) (t3 : Int64), p_out s0 32 = false → p_ev scr 159 27 [.ref 24, .long y1, p_U, .int x3] [.int s0, .ref 40, .long t2, .long t3] w = p_ev scr 159 28 [.ref 24, .long y1, p_U, .int x3] [.long (w.2.1 40 s0.toNatClampNeg), .long t2, .long t3] w) ∧
  (∀ (scr : pX) (w : pW) (y1 : Int64) (x3 : Int32) (t0 : Int64) (t1 : Int64) (t2 : Int64), p_ev scr 159 28 [.ref 24, .long y1, p_U, .int x3] [.long t0, .long t1, .long t2] w = p_ev scr 159 29 [.ref 24, .long y1, p_U, .int x3] [.long (t1 - t0), .long t2] w) ∧
  (∀ (scr : pX) (w : pW) (y1 : Int64) (x3 : Int32) (t0 : Int64) (t1 : Int64), p_ev scr 159 29 [.ref 24, .long y1, p_U, .int x3] [.long t0, .long t1] w = p_bnd scr 159 29 32 [.ref 24, .long y1, p_U, .int x3] [.long t1] (p_ev none 98 0 [.long t0, p_U] [] w)) ∧
  (∀ (scr : pX) (w : pW) (y1 : Int64) (x3 : Int32) (t0 : Int64) (t1 : Int64), p_ev scr 159 32 [.ref 24, .long y1, p_U, .int x3] [.long t0, .long t1] w = p_ev scr 159 33 [.ref 24, .long y1, p_U, .int x3] [.long (t1 + t0)] w) ∧
  (∀ (scr : pX) (w : pW) (y1 : Int64) (x3 : Int32) (t0 : Int64), p_ev scr 159 33 [.ref 24, .long y1, p_U, .int x3] [.long t0] w = p_ev scr 159 34 [.ref 24, .long t0, p_U, .int x3] [] w) ∧
  (∀ (scr : pX) (w : pW) (y1 : Int64) (x3 : Int32), p_ev scr 159 34 [.ref 24, .long y1, p_U, .int x3] [] w = p_ev scr 159 37 [.ref 24, .long y1, p_U, .int (x3 + (nI 1))] [] w) ∧
  (∀ (scr : pX) (w : pW) (y1 : Int64) (x3 : Int32), p_ev scr 159 37 [.ref 24, .long y1, p_U, .int x3] [] w = p_ev scr 159 4 [.ref 24, .long y1, p_U, .int x3] [] w) ∧
  (∀ (scr : pX) (w : pW) (y1 : Int64) (x3 : Int32), p_ev scr 159 40 [.ref 24, .long y1, p_U, .int x3] [] w = p_ev scr 159 41 [.ref 24, .long y1, p_U, .int x3] [.long y1] w) ∧
  (∀ (scr : pX) (w : pW) (y1 : Int64) (x3 : Int32) (t0 : Int64), p_ev scr 159 41 [.ref 24, .long y1, p_U, .int x3] [.long t0] w = some (.inl (some (.long t0)), w, 0)) :=
  ⟨fun _ _ => p_r (by decide +kernel : p_at 159 0 = some (.lconst 0)) rfl,
  fun _ _ _ => p_r (by decide +kernel : p_at 159 1 = some (.lstore_n 1)) rfl,
  fun _ _ _ => p_r (by decide +kernel : p_at 159 2 = some (.iconst 0)) rfl,
  fun _ _ _ _ => p_r (by decide +kernel : p_at 159 3 = some (.istore_n 3)) rfl,
  fun _ _ _ _ _ => p_r (by decide +kernel : p_at 159 5 = some (.aload_n 0)) rfl,
  fun _ _ _ _ _ => p_rgf (f := none) (by decide +kernel : p_at 159 6 = some (.getfield 17)) (by decide +kernel : p_fld (p_own 159) 17 = some (5, 2)) (rfl : p_ob 24 = some (.inr (5, [some 25, some 26, none, none, none, some 27, some 28, some 29, some 30, some 31, some 32, some 33, some 34, some 35, some 36, some 37, some 38, some 39, none, none, some 40]))) rfl,
  fun _ _ _ _ _ _ => p_rb2 (c := fun x y => decide (y ≤ x)) (off := 31) (by decide +kernel : p_at 159 9 = some (.if_icmp .ge 31)) (by decide +kernel) rfl rfl rfl,
  fun _ _ _ _ => p_r (by decide +kernel : p_at 159 12 = some (.lload_n 1)) rfl,
  fun _ _ _ _ _ => p_r (by decide +kernel : p_at 159 13 = some (.aload_n 0)) rfl,
  fun _ _ _ _ _ => p_rgf (f := some 29) (by decide +kernel : p_at 159 14 = some (.getfield 27)) (by decide +kernel : p_fld (p_own 159) 27 = some (5, 7)) (rfl : p_ob 24 = some (.inr (5, [some 25, some 26, none, none, none, some 27, some 28, some 29, some 30, some 31, some 32, some 33, some 34, some 35, some 36, some 37, some 38, some 39, none, none, some 40]))) rfl,
  fun _ _ _ _ _ => p_r (by decide +kernel : p_at 159 17 = some (.bipush 32)) rfl,
  fun _ _ _ _ _ _ => p_r (by decide +kernel : p_at 159 19 = some (.iload_n 3)) rfl,
  fun _ _ _ _ _ _ _ => p_r (by decide +kernel : p_at 159 20 = some (.iadd)) rfl,
  fun _ _ _ _ _ _ hp => p_rlald (by decide +kernel : p_at 159 21 = some (.laload)) (rfl : p_ob 29 = some (.inl (2, 512))) hp,
  fun _ _ _ _ _ _ => p_r (by decide +kernel : p_at 159 22 = some (.aload_n 0)) rfl,
  fun _ _ _ _ _ _ => p_rgf (f := some 40) (by decide +kernel : p_at 159 23 = some (.getfield 60)) (by decide +kernel : p_fld (p_own 159) 60 = some (5, 20)) (rfl : p_ob 24 = some (.inr (5, [some 25, some 26, none, none, none, some 27, some 28, some 29, some 30, some 31, some 32, some 33, some 34, some 35, some 36, some 37, some 38, some 39, none, none, some 40]))) rfl,
  fun _ _ _ _ _ _ => p_r (by decide +kernel : p_at 159 26 = some (.iload_n 3)) rfl,
  fun _ _ _ _ _ _ _ hp => p_rlald (by decide +kernel : p_at 159 27 = some (.laload)) (rfl : p_ob 40 = some (.inl (2, 32))) hp,
  fun _ _ _ _ _ _ _ => p_r (by decide +kernel : p_at 159 28 = some (.lsub)) rfl,
  fun _ _ _ _ _ _ => p_rcs (nl := 2) (by decide +kernel : p_at 159 29 = some (.invokestatic 66)) (by decide +kernel : p_inv (p_own 159) 66 = some (1, 98, 1)) (by decide +kernel) rfl rfl (Nat.le_of_ble_eq_true rfl) (Nat.le_of_ble_eq_true rfl) (Nat.le_of_ble_eq_true rfl) rfl,
  fun _ _ _ _ _ _ => p_r (by decide +kernel : p_at 159 32 = some (.ladd)) rfl,
  fun _ _ _ _ _ => p_r (by decide +kernel : p_at 159 33 = some (.lstore_n 1)) rfl,
  fun _ _ _ _ => p_r (by decide +kernel : p_at 159 34 = some (.iinc 3 1)) rfl,
  fun _ _ _ _ => p_rgo (by decide +kernel : p_at 159 37 = some (.goto (-33))) (by decide +kernel),
  fun _ _ _ _ => p_r (by decide +kernel : p_at 159 40 = some (.lload_n 1)) rfl,
  fun _ _ _ _ _ => p_rlret (by decide +kernel : p_at 159 41 = some (.lreturn)) (by decide +kernel)⟩
theorem H159_4 :
  (∀ (scr : pX) (w : pW) (y1 : Int64) (x3 : Int32), p_ev scr 159 4 [.ref 24, .long y1, p_U, .int x3] [] w = p_ev scr 159 5 [.ref 24, .long y1, p_U, .int x3] [.int x3] w) :=
  fun _ _ _ _ => p_r (by decide +kernel : p_at 159 4 = some (.iload_n 3)) rfl
-- 160: keepSamples
theorem M160 :
  (∀ (scr : pX) (w : pW), p_ev scr 160 0 [.ref 24, p_U] [] w = p_ev scr 160 1 [.ref 24, p_U] [.ref 24] w) ∧
  (∀ (scr : pX) (w : pW), p_ev scr 160 1 [.ref 24, p_U] [.ref 24] w = p_bnd scr 160 1 4 [.ref 24, p_U] [] (p_ev none 113 0 [.ref 24, p_U] [] w)) ∧
  (∀ (scr : pX) (w : pW), p_ev scr 160 4 [.ref 24, p_U] [] w = p_ev scr 160 5 [.ref 24, p_U] [.int (nI 0)] w) ∧
  (∀ (scr : pX) (w : pW) (s0 : Int32), p_ev scr 160 5 [.ref 24, p_U] [.int s0] w = p_ev scr 160 6 [.ref 24, .int s0] [] w) ∧
  (∀ (scr : pX) (w : pW) (x1 : Int32) (s0 : Int32), p_ev scr 160 7 [.ref 24, .int x1] [.int s0] w = p_ev scr 160 8 [.ref 24, .int x1] [.ref 24, .int s0] w) ∧
  (∀ (scr : pX) (w : pW) (x1 : Int32) (s1 : Int32), p_ev scr 160 8 [.ref 24, .int x1] [.ref 24, .int s1] w = p_ev scr 160 11 [.ref 24, .int x1] [.int (w.1 24 2), .int s1] w) ∧
  (∀ (scr : pX) (w : pW) (x1 : Int32) (s0 : Int32) (s1 : Int32), p_ev scr 160 11 [.ref 24, .int x1] [.int s0, .int s1] w = if s0 ≤ s1 then p_ev scr 160 35 [.ref 24, .int x1] [] w else p_ev scr 160 14 [.ref 24, .int x1] [] w) ∧
  (∀ (scr : pX) (w : pW) (x1 : Int32), p_ev scr 160 14 [.ref 24, .int x1] [] w = p_ev scr 160 15 [.ref 24, .int x1] [.ref 24] w) ∧
  (∀ (scr : pX) (w : pW) (x1 : Int32), p_ev scr 160 15 [.ref 24, .int x1] [.ref 24] w = p_ev scr 160 18 [.ref 24, .int x1] [.ref 40] w) ∧
  (∀ (scr : pX) (w : pW) (x1 : Int32), p_ev scr 160 18 [.ref 24, .int x1] [.ref 40] w = p_ev scr 160 19 [.ref 24, .int x1] [.int x1, .ref 40] w) ∧
  (∀ (scr : pX) (w : pW) (x1 : Int32) (s0 : Int32), p_ev scr 160 19 [.ref 24, .int x1] [.int s0, .ref 40] w = p_ev scr 160 20 [.ref 24, .int x1] [.ref 24, .int s0, .ref 40] w) ∧
  (∀ (scr : pX) (w : pW) (x1 : Int32) (s1 : Int32), p_ev scr 160 20 [.ref 24, .int x1] [.ref 24, .int s1, .ref 40] w = p_ev scr 160 23 [.ref 24, .int x1] [.ref 29, .int s1, .ref 40] w) ∧
  (∀ (scr : pX) (w : pW) (x1 : Int32) (s1 : Int32), p_ev scr 160 23 [.ref 24, .int x1] [.ref 29, .int s1, .ref 40] w = p_ev scr 160 25 [.ref 24, .int x1] [.int (nI 32), .ref 29, .int s1, .ref 40] w) ∧
  (∀ (scr : pX) (w : pW) (x1 : Int32) (s0 : Int32) (s2 : Int32), p_ev scr 160 25 [.ref 24, .int x1] [.int s0, .ref 29, .int s2, .ref 40] w = p_ev scr 160 26 [.ref 24, .int x1] [.int x1, .int s0, .ref 29, .int s2, .ref 40] w) ∧
  (∀ (scr : pX) (w : pW) (x1 : Int32) (s0 : Int32) (s1 : Int32) (s3 : Int32), p_ev scr 160 26 [.ref 24, .int x1] [.int s0, .int s1, .ref 29, .int s3, .ref 40] w = p_ev scr 160 27 [.ref 24, .int x1] [.int (s1 + s0), .ref 29, .int s3, .ref 40] w) ∧
  (∀ (scr : pX) (w : pW) (x1 : Int32) (s0 : Int32) (s2 : Int32), p_out s0 512 = false → p_ev scr 160 27 [.ref 24, .int x1] [.int s0, .ref 29, .int s2, .ref 40] w = p_ev scr 160 28 [.ref 24, .int x1] [.long (w.2.1 29 s0.toNatClampNeg), .int s2, .ref 40] w) ∧
  (∀ (scr : pX) (w : pW) (x1 : Int32) (t0 : Int64) (s1 : Int32), p_out s1 32 = false → p_ev scr 160 28 [.ref 24, .int x1] [.long t0, .int s1, .ref 40] w = p_ev scr 160 29 [.ref 24, .int x1] [] (w.1, p_u w.2.1 40 s1.toNatClampNeg t0, w.2.2)) ∧
  (∀ (scr : pX) (w : pW) (x1 : Int32), p_ev scr 160 29 [.ref 24, .int x1] [] w = p_ev scr 160 32 [.ref 24, .int (x1 + (nI 1))] [] w) ∧
  (∀ (scr : pX) (w : pW) (x1 : Int32), p_ev scr 160 32 [.ref 24, .int x1] [] w = p_ev scr 160 6 [.ref 24, .int x1] [] w) ∧
  (∀ (scr : pX) (w : pW) (x1 : Int32), p_ev scr 160 35 [.ref 24, .int x1] [] w = some (.inl none, w, 0)) :=
  ⟨fun _ _ => p_r (by decide +kernel : p_at 160 0 = some (.aload_n 0)) rfl,
  fun _ _ => p_rcv (nl := 2) (by decide +kernel : p_at 160 1 = some (.invokevirtual 132)) (by decide +kernel : p_inv (p_own 160) 132 = some (1, 113, 1)) (by decide +kernel) (rfl : p_ob 24 = some (.inr (5, [some 25, some 26, none, none, none, some 27, some 28, some 29, some 30, some 31, some 32, some 33, some 34, some 35, some 36, some 37, some 38, some 39, none, none, some 40]))) rfl rfl (Nat.le_of_ble_eq_true rfl) (Nat.le_of_ble_eq_true rfl) (Nat.le_of_ble_eq_true rfl) rfl,
  fun _ _ => p_r (by decide +kernel : p_at 160 4 = some (.iconst 0)) rfl,
  fun _ _ _ => p_r (by decide +kernel : p_at 160 5 = some (.istore_n 1)) rfl,
  fun _ _ _ _ => p_r (by decide +kernel : p_at 160 7 = some (.aload_n 0)) rfl,
  fun _ _ _ _ => p_rgf (f := none) (by decide +kernel : p_at 160 8 = some (.getfield 17)) (by decide +kernel : p_fld (p_own 160) 17 = some (5, 2)) (rfl : p_ob 24 = some (.inr (5, [some 25, some 26, none, none, none, some 27, some 28, some 29, some 30, some 31, some 32, some 33, some 34, some 35, some 36, some 37, some 38, some 39, none, none, some 40]))) rfl,
  fun _ _ _ _ _ => p_rb2 (c := fun x y => decide (y ≤ x)) (off := 24) (by decide +kernel : p_at 160 11 = some (.if_icmp .ge 24)) (by decide +kernel) rfl rfl rfl,
  fun _ _ _ => p_r (by decide +kernel : p_at 160 14 = some (.aload_n 0)) rfl,
  fun _ _ _ => p_rgf (f := some 40) (by decide +kernel : p_at 160 15 = some (.getfield 60)) (by decide +kernel : p_fld (p_own 160) 60 = some (5, 20)) (rfl : p_ob 24 = some (.inr (5, [some 25, some 26, none, none, none, some 27, some 28, some 29, some 30, some 31, some 32, some 33, some 34, some 35, some 36, some 37, some 38, some 39, none, none, some 40]))) rfl,
  fun _ _ _ => p_r (by decide +kernel : p_at 160 18 = some (.iload_n 1)) rfl,
  fun _ _ _ _ => p_r (by decide +kernel : p_at 160 19 = some (.aload_n 0)) rfl,
  fun _ _ _ _ => p_rgf (f := some 29) (by decide +kernel : p_at 160 20 = some (.getfield 27)) (by decide +kernel : p_fld (p_own 160) 27 = some (5, 7)) (rfl : p_ob 24 = some (.inr (5, [some 25, some 26, none, none, none, some 27, some 28, some 29, some 30, some 31, some 32, some 33, some 34, some 35, some 36, some 37, some 38, some 39, none, none, some 40]))) rfl,
  fun _ _ _ _ => p_r (by decide +kernel : p_at 160 23 = some (.bipush 32)) rfl,
  fun _ _ _ _ _ => p_r (by decide +kernel : p_at 160 25 = some (.iload_n 1)) rfl,
  fun _ _ _ _ _ _ => p_r (by decide +kernel : p_at 160 26 = some (.iadd)) rfl,
  fun _ _ _ _ _ hp => p_rlald (by decide +kernel : p_at 160 27 = some (.laload)) (rfl : p_ob 29 = some (.inl (2, 512))) hp,
  fun _ _ _ _ _ hp => p_rlast (by decide +kernel : p_at 160 28 = some (.lastore)) (rfl : p_ob 40 = some (.inl (2, 32))) hp,
  fun _ _ _ => p_r (by decide +kernel : p_at 160 29 = some (.iinc 1 1)) rfl,
  fun _ _ _ => p_rgo (by decide +kernel : p_at 160 32 = some (.goto (-26))) (by decide +kernel),
  fun _ _ _ => p_rvret (by decide +kernel : p_at 160 35 = some (.return_)) (by decide +kernel)⟩
theorem H160_6 :
  (∀ (scr : pX) (w : pW) (x1 : Int32), p_ev scr 160 6 [.ref 24, .int x1] [] w = p_ev scr 160 7 [.ref 24, .int x1] [.int x1] w) :=
  fun _ _ _ => p_r (by decide +kernel : p_at 160 6 = some (.iload_n 1)) rfl
-- 161: errorWith
theorem M161 :
  (∀ (scr : pX) (w : pW) (x1 : Int32), p_ev scr 161 0 [.ref 24, .int x1] [] w = p_ev scr 161 1 [.ref 24, .int x1] [.ref 24] w) ∧
  (∀ (scr : pX) (w : pW) (x1 : Int32), p_ev scr 161 1 [.ref 24, .int x1] [.ref 24] w = p_ev scr 161 2 [.ref 24, .int x1] [.int (nI 0), .ref 24] w) ∧
  (∀ (scr : pX) (w : pW) (x1 : Int32) (s0 : Int32), p_ev scr 161 2 [.ref 24, .int x1] [.int s0, .ref 24] w = p_ev scr 161 5 [.ref 24, .int x1] [] (p_u w.1 24 4 s0, w.2)) ∧
  (∀ (scr : pX) (w : pW) (x1 : Int32), p_ev scr 161 5 [.ref 24, .int x1] [] w = p_ev scr 161 6 [.ref 24, .int x1] [.ref 24] w) ∧
  (∀ (scr : pX) (w : pW) (x1 : Int32), p_ev scr 161 6 [.ref 24, .int x1] [.ref 24] w = p_bnd scr 161 6 9 [.ref 24, .int x1] [] (p_ev none 140 0 [.ref 24, p_U, p_U] [] w)) ∧
  (∀ (scr : pX) (w : pW) (x1 : Int32) (s0 : Int32), p_ev scr 161 9 [.ref 24, .int x1] [.int s0] w = if ¬ s0 = nI 0 then p_ev scr 161 19 [.ref 24, .int x1] [] w else p_ev scr 161 12 [.ref 24, .int x1] [] w) ∧
  (∀ (scr : pX) (w : pW) (x1 : Int32), p_ev scr 161 12 [.ref 24, .int x1] [] w = p_ev scr 161 13 [.ref 24, .int x1] [.ref 24] w) ∧
  (∀ (scr : pX) (w : pW) (x1 : Int32), p_ev scr 161 13 [.ref 24, .int x1] [.ref 24] w = p_ev scr 161 14 [.ref 24, .int x1] [.int (nI 1), .ref 24] w) ∧
  (∀ (scr : pX) (w : pW) (x1 : Int32) (s0 : Int32), p_ev scr 161 14 [.ref 24, .int x1] [.int s0, .ref 24] w = p_bnd scr 161 14 17 [.ref 24, .int x1] [] (p_ev none 96 0 [.ref 24, .int s0] [] w)) ∧
  (∀ (scr : pX) (w : pW) (x1 : Int32) (s0 : Int32), p_ev scr 161 17 [.ref 24, .int x1] [.int s0] w = p_ev scr 161 18 [.ref 24, .int x1] [.long s0.toInt64] w) ∧
  (∀ (scr : pX) (w : pW) (x1 : Int32) (t0 : Int64), p_ev scr 161 18 [.ref 24, .int x1] [.long t0] w = some (.inl (some (.long t0)), w, 0)) ∧
  (∀ (scr : pX) (w : pW) (x1 : Int32), p_ev scr 161 19 [.ref 24, .int x1] [] w = p_ev scr 161 20 [.ref 24, .int x1] [.int x1] w) ∧
  (∀ (scr : pX) (w : pW) (x1 : Int32) (s0 : Int32), p_ev scr 161 20 [.ref 24, .int x1] [.int s0] w = if nI 0 ≤ s0 then p_ev scr 161 30 [.ref 24, .int x1] [] w else p_ev scr 161 23 [.ref 24, .int x1] [] w) ∧
  (∀ (scr : pX) (w : pW) (x1 : Int32), p_ev scr 161 23 [.ref 24, .int x1] [] w = p_ev scr 161 24 [.ref 24, .int x1] [.ref 24] w) ∧
  (∀ (scr : pX) (w : pW) (x1 : Int32), p_ev scr 161 24 [.ref 24, .int x1] [.ref 24] w = p_ev scr 161 25 [.ref 24, .int x1] [.int (nI 2), .ref 24] w) ∧
  (∀ (scr : pX) (w : pW) (x1 : Int32) (s0 : Int32), p_ev scr 161 25 [.ref 24, .int x1] [.int s0, .ref 24] w = p_bnd scr 161 25 28 [.ref 24, .int x1] [] (p_ev none 96 0 [.ref 24, .int s0] [] w)) ∧
  (∀ (scr : pX) (w : pW) (x1 : Int32) (s0 : Int32), p_ev scr 161 28 [.ref 24, .int x1] [.int s0] w = p_ev scr 161 29 [.ref 24, .int x1] [.long s0.toInt64] w) ∧
  (∀ (scr : pX) (w : pW) (x1 : Int32) (t0 : Int64), p_ev scr 161 29 [.ref 24, .int x1] [.long t0] w = some (.inl (some (.long t0)), w, 0)) ∧
  (∀ (scr : pX) (w : pW) (x1 : Int32), p_ev scr 161 30 [.ref 24, .int x1] [] w = p_ev scr 161 31 [.ref 24, .int x1] [.ref 24] w) ∧
  (∀ (scr : pX) (w : pW) (x1 : Int32), p_ev scr 161 31 [.ref 24, .int x1] [.ref 24] w = p_bnd scr 161 31 34 [.ref 24, .int x1] [] (p_ev none 160 0 [.ref 24, p_U] [] w)) ∧
  (∀ (scr : pX) (w : pW) (x1 : Int32), p_ev scr 161 34 [.ref 24, .int x1] [] w = p_ev scr 161 35 [.ref 24, .int x1] [.ref 24] w) ∧
  (∀ (scr : pX) (w : pW) (x1 : Int32), p_ev scr 161 35 [.ref 24, .int x1] [.ref 24] w = p_ev scr 161 36 [.ref 24, .int x1] [.int x1, .ref 24] w) ∧
  (∀ (scr : pX) (w : pW) (x1 : Int32) (s0 : Int32), p_ev scr 161 36 [.ref 24, .int x1] [.int s0, .ref 24] w = p_bnd scr 161 36 39 [.ref 24, .int x1] [] (p_ev none 157 0 [.ref 24, .int s0, p_U] [] w)) ∧
  (∀ (scr : pX) (w : pW) (x1 : Int32), p_ev scr 161 39 [.ref 24, .int x1] [] w = p_ev scr 161 40 [.ref 24, .int x1] [.ref 24] w) ∧
  (∀ (scr : pX) (w : pW) (x1 : Int32), p_ev scr 161 40 [.ref 24, .int x1] [.ref 24] w = p_bnd scr 161 40 43 [.ref 24, .int x1] [] (p_ev none 159 0 [.ref 24, p_U, p_U, p_U] [] w)) ∧
  (∀ (scr : pX) (w : pW) (x1 : Int32) (t0 : Int64), p_ev scr 161 43 [.ref 24, .int x1] [.long t0] w = some (.inl (some (.long t0)), w, 0)) :=
  ⟨fun _ _ _ => p_r (by decide +kernel : p_at 161 0 = some (.aload_n 0)) rfl,
  fun _ _ _ => p_r (by decide +kernel : p_at 161 1 = some (.iconst 0)) rfl,
  fun _ _ _ _ => p_rpf (by decide +kernel : p_at 161 2 = some (.putfield 63)) (by decide +kernel : p_fld (p_own 161) 63 = some (5, 4)) (rfl : p_ob 24 = some (.inr (5, [some 25, some 26, none, none, none, some 27, some 28, some 29, some 30, some 31, some 32, some 33, some 34, some 35, some 36, some 37, some 38, some 39, none, none, some 40]))) rfl,
  fun _ _ _ => p_r (by decide +kernel : p_at 161 5 = some (.aload_n 0)) rfl,
  fun _ _ _ => p_rcv (nl := 3) (by decide +kernel : p_at 161 6 = some (.invokevirtual 175)) (by decide +kernel : p_inv (p_own 161) 175 = some (1, 140, 1)) (by decide +kernel) (rfl : p_ob 24 = some (.inr (5, [some 25, some 26, none, none, none, some 27, some 28, some 29, some 30, some 31, some 32, some 33, some 34, some 35, some 36, some 37, some 38, some 39, none, none, some 40]))) rfl rfl (Nat.le_of_ble_eq_true rfl) (Nat.le_of_ble_eq_true rfl) (Nat.le_of_ble_eq_true rfl) rfl,
  fun _ _ _ _ => p_rb1 (c := fun x => decide (¬ x = 0)) (off := 10) (by decide +kernel : p_at 161 9 = some (.ifCond .ne 10)) (by decide +kernel) rfl rfl rfl,
  fun _ _ _ => p_r (by decide +kernel : p_at 161 12 = some (.aload_n 0)) rfl,
  fun _ _ _ => p_r (by decide +kernel : p_at 161 13 = some (.iconst 1)) rfl,
  fun _ _ _ _ => p_rcv (nl := 2) (by decide +kernel : p_at 161 14 = some (.invokevirtual 76)) (by decide +kernel : p_inv (p_own 161) 76 = some (1, 96, 2)) (by decide +kernel) (rfl : p_ob 24 = some (.inr (5, [some 25, some 26, none, none, none, some 27, some 28, some 29, some 30, some 31, some 32, some 33, some 34, some 35, some 36, some 37, some 38, some 39, none, none, some 40]))) rfl rfl (Nat.le_of_ble_eq_true rfl) (Nat.le_of_ble_eq_true rfl) (Nat.le_of_ble_eq_true rfl) rfl,
  fun _ _ _ _ => p_r (by decide +kernel : p_at 161 17 = some (.i2l)) rfl,
  fun _ _ _ _ => p_rlret (by decide +kernel : p_at 161 18 = some (.lreturn)) (by decide +kernel),
  fun _ _ _ => p_r (by decide +kernel : p_at 161 19 = some (.iload_n 1)) rfl,
  fun _ _ _ _ => p_rb1 (c := fun x => decide (0 ≤ x)) (off := 10) (by decide +kernel : p_at 161 20 = some (.ifCond .ge 10)) (by decide +kernel) rfl rfl rfl,
  fun _ _ _ => p_r (by decide +kernel : p_at 161 23 = some (.aload_n 0)) rfl,
  fun _ _ _ => p_r (by decide +kernel : p_at 161 24 = some (.iconst 2)) rfl,
  fun _ _ _ _ => p_rcv (nl := 2) (by decide +kernel : p_at 161 25 = some (.invokevirtual 76)) (by decide +kernel : p_inv (p_own 161) 76 = some (1, 96, 2)) (by decide +kernel) (rfl : p_ob 24 = some (.inr (5, [some 25, some 26, none, none, none, some 27, some 28, some 29, some 30, some 31, some 32, some 33, some 34, some 35, some 36, some 37, some 38, some 39, none, none, some 40]))) rfl rfl (Nat.le_of_ble_eq_true rfl) (Nat.le_of_ble_eq_true rfl) (Nat.le_of_ble_eq_true rfl) rfl,
  fun _ _ _ _ => p_r (by decide +kernel : p_at 161 28 = some (.i2l)) rfl,
  fun _ _ _ _ => p_rlret (by decide +kernel : p_at 161 29 = some (.lreturn)) (by decide +kernel),
  fun _ _ _ => p_r (by decide +kernel : p_at 161 30 = some (.aload_n 0)) rfl,
  fun _ _ _ => p_rcv (nl := 2) (by decide +kernel : p_at 161 31 = some (.invokevirtual 230)) (by decide +kernel : p_inv (p_own 161) 230 = some (1, 160, 1)) (by decide +kernel) (rfl : p_ob 24 = some (.inr (5, [some 25, some 26, none, none, none, some 27, some 28, some 29, some 30, some 31, some 32, some 33, some 34, some 35, some 36, some 37, some 38, some 39, none, none, some 40]))) rfl rfl (Nat.le_of_ble_eq_true rfl) (Nat.le_of_ble_eq_true rfl) (Nat.le_of_ble_eq_true rfl) rfl,
  fun _ _ _ => p_r (by decide +kernel : p_at 161 34 = some (.aload_n 0)) rfl,
  fun _ _ _ => p_r (by decide +kernel : p_at 161 35 = some (.iload_n 1)) rfl,
  fun _ _ _ _ => p_rcv (nl := 3) (by decide +kernel : p_at 161 36 = some (.invokevirtual 227)) (by decide +kernel : p_inv (p_own 161) 227 = some (1, 157, 2)) (by decide +kernel) (rfl : p_ob 24 = some (.inr (5, [some 25, some 26, none, none, none, some 27, some 28, some 29, some 30, some 31, some 32, some 33, some 34, some 35, some 36, some 37, some 38, some 39, none, none, some 40]))) rfl rfl (Nat.le_of_ble_eq_true rfl) (Nat.le_of_ble_eq_true rfl) (Nat.le_of_ble_eq_true rfl) rfl,
  fun _ _ _ => p_r (by decide +kernel : p_at 161 39 = some (.aload_n 0)) rfl,
  fun _ _ _ => p_rcv (nl := 4) (by decide +kernel : p_at 161 40 = some (.invokevirtual 233)) (by decide +kernel : p_inv (p_own 161) 233 = some (1, 159, 1)) (by decide +kernel) (rfl : p_ob 24 = some (.inr (5, [some 25, some 26, none, none, none, some 27, some 28, some 29, some 30, some 31, some 32, some 33, some 34, some 35, some 36, some 37, some 38, some 39, none, none, some 40]))) rfl rfl (Nat.le_of_ble_eq_true rfl) (Nat.le_of_ble_eq_true rfl) (Nat.le_of_ble_eq_true rfl) rfl,
  fun _ _ _ _ => p_rlret (by decide +kernel : p_at 161 43 = some (.lreturn)) (by decide +kernel)⟩
-- 162: bitsFor
theorem M162 :
  (∀ (scr : pX) (w : pW) (x1 : Int32), p_ev scr 162 0 [.ref 24, .int x1, p_U] [] w = p_ev scr 162 1 [.ref 24, .int x1, p_U] [.ref 24] w) ∧
  (∀ (scr : pX) (w : pW) (x1 : Int32), p_ev scr 162 1 [.ref 24, .int x1, p_U] [.ref 24] w = p_ev scr 162 2 [.ref 24, .int x1, p_U] [.int (nI 0), .ref 24] w) ∧
  (∀ (scr : pX) (w : pW) (x1 : Int32) (s0 : Int32), p_ev scr 162 2 [.ref 24, .int x1, p_U] [.int s0, .ref 24] w = p_ev scr 162 5 [.ref 24, .int x1, p_U] [] (p_u w.1 24 4 s0, w.2)) ∧
  (∀ (scr : pX) (w : pW) (x1 : Int32), p_ev scr 162 5 [.ref 24, .int x1, p_U] [] w = p_ev scr 162 6 [.ref 24, .int x1, p_U] [.ref 24] w) ∧
  (∀ (scr : pX) (w : pW) (x1 : Int32), p_ev scr 162 6 [.ref 24, .int x1, p_U] [.ref 24] w = p_bnd scr 162 6 9 [.ref 24, .int x1, p_U] [] (p_ev none 140 0 [.ref 24, p_U, p_U] [] w)) ∧
  (∀ (scr : pX) (w : pW) (x1 : Int32) (s0 : Int32), p_ev scr 162 9 [.ref 24, .int x1, p_U] [.int s0] w = if ¬ s0 = nI 0 then p_ev scr 162 18 [.ref 24, .int x1, p_U] [] w else p_ev scr 162 12 [.ref 24, .int x1, p_U] [] w) ∧
  (∀ (scr : pX) (w : pW) (x1 : Int32), p_ev scr 162 12 [.ref 24, .int x1, p_U] [] w = p_ev scr 162 13 [.ref 24, .int x1, p_U] [.ref 24] w) ∧
  (∀ (scr : pX) (w : pW) (x1 : Int32), p_ev scr 162 13 [.ref 24, .int x1, p_U] [.ref 24] w = p_ev scr 162 14 [.ref 24, .int x1, p_U] [.int (nI 1), .ref 24] w) ∧
  (∀ (scr : pX) (w : pW) (x1 : Int32) (s0 : Int32), p_ev scr 162 14 [.ref 24, .int x1, p_U] [.int s0, .ref 24] w = p_bnd scr 162 14 17 [.ref 24, .int x1, p_U] [] (p_ev none 96 0 [.ref 24, .int s0] [] w)) ∧
  (∀ (scr : pX) (w : pW) (x1 : Int32) (s0 : Int32), p_ev scr 162 17 [.ref 24, .int x1, p_U] [.int s0] w = some (.inl (some (.int s0)), w, 0)) ∧
  (∀ (scr : pX) (w : pW) (x1 : Int32), p_ev scr 162 18 [.ref 24, .int x1, p_U] [] w = p_ev scr 162 19 [.ref 24, .int x1, p_U] [.int x1] w) ∧
  (∀ (scr : pX) (w : pW) (x1 : Int32) (s0 : Int32), p_ev scr 162 19 [.ref 24, .int x1, p_U] [.int s0] w = if nI 0 ≤ s0 then p_ev scr 162 28 [.ref 24, .int x1, p_U] [] w else p_ev scr 162 22 [.ref 24, .int x1, p_U] [] w) ∧
  (∀ (scr : pX) (w : pW) (x1 : Int32), p_ev scr 162 22 [.ref 24, .int x1, p_U] [] w = p_ev scr 162 23 [.ref 24, .int x1, p_U] [.ref 24] w) ∧
  (∀ (scr : pX) (w : pW) (x1 : Int32), p_ev scr 162 23 [.ref 24, .int x1, p_U] [.ref 24] w = p_ev scr 162 24 [.ref 24, .int x1, p_U] [.int (nI 2), .ref 24] w) ∧
  (∀ (scr : pX) (w : pW) (x1 : Int32) (s0 : Int32), p_ev scr 162 24 [.ref 24, .int x1, p_U] [.int s0, .ref 24] w = p_bnd scr 162 24 27 [.ref 24, .int x1, p_U] [] (p_ev none 96 0 [.ref 24, .int s0] [] w)) ∧
  (∀ (scr : pX) (w : pW) (x1 : Int32) (s0 : Int32), p_ev scr 162 27 [.ref 24, .int x1, p_U] [.int s0] w = some (.inl (some (.int s0)), w, 0)) ∧
  (∀ (scr : pX) (w : pW) (x1 : Int32), p_ev scr 162 28 [.ref 24, .int x1, p_U] [] w = p_ev scr 162 29 [.ref 24, .int x1, p_U] [.ref 24] w) ∧
  (∀ (scr : pX) (w : pW) (x1 : Int32), p_ev scr 162 29 [.ref 24, .int x1, p_U] [.ref 24] w = p_bnd scr 162 29 32 [.ref 24, .int x1, p_U] [] (p_ev none 160 0 [.ref 24, p_U] [] w)) ∧
  (∀ (scr : pX) (w : pW) (x1 : Int32), p_ev scr 162 32 [.ref 24, .int x1, p_U] [] w = p_ev scr 162 33 [.ref 24, .int x1, p_U] [.ref 24] w) ∧
  (∀ (scr : pX) (w : pW) (x1 : Int32), p_ev scr 162 33 [.ref 24, .int x1, p_U] [.ref 24] w = p_ev scr 162 34 [.ref 24, .int x1, p_U] [.int (nI 0), .ref 24] w) ∧
  (∀ (scr : pX) (w : pW) (x1 : Int32) (s0 : Int32), p_ev scr 162 34 [.ref 24, .int x1, p_U] [.int s0, .ref 24] w = p_bnd scr 162 34 37 [.ref 24, .int x1, p_U] [] (p_ev none 157 0 [.ref 24, .int s0, p_U] [] w)) ∧
  (∀ (scr : pX) (w : pW) (x1 : Int32), p_ev scr 162 37 [.ref 24, .int x1, p_U] [] w = p_ev scr 162 38 [.ref 24, .int x1, p_U] [.int (nI 0)] w) ∧
  (∀ (scr : pX) (w : pW) (x1 : Int32) (s0 : Int32), p_ev scr 162 38 [.ref 24, .int x1, p_U] [.int s0] w = p_ev scr 162 39 [.ref 24, .int x1, .int s0] [] w) ∧
  (∀ (scr : pX) (w : pW) (x1 : Int32) (x2 : Int32), p_ev scr 162 40 [.ref 24, .int x1, .int x2] [.ref 24] w = p_bnd scr 162 40 43 [.ref 24, .int x1, .int x2] [] (p_ev none 159 0 [.ref 24, p_U, p_U, p_U] [] w)) ∧
  (∀ (scr : pX) (w : pW) (x1 : Int32) (x2 : Int32) (t0 : Int64), p_ev scr 162 43 [.ref 24, .int x1, .int x2] [.long t0] w = p_ev scr 162 44 [.ref 24, .int x1, .int x2] [.int x1, .long t0] w) ∧
  (∀ (scr : pX) (w : pW) (x1 : Int32) (x2 : Int32) (s0 : Int32) (t1 : Int64), p_ev scr 162 44 [.ref 24, .int x1, .int x2] [.int s0, .long t1] w = p_ev scr 162 45 [.ref 24, .int x1, .int x2] [.long s0.toInt64, .long t1] w) ∧
  (∀ (scr : pX) (w : pW) (x1 : Int32) (x2 : Int32) (t0 : Int64) (t1 : Int64), p_ev scr 162 45 [.ref 24, .int x1, .int x2] [.long t0, .long t1] w = p_ev scr 162 46 [.ref 24, .int x1, .int x2] [.int (lg_cmp t1 t0)] w) ∧
  (∀ (scr : pX) (w : pW) (x1 : Int32) (x2 : Int32) (s0 : Int32), p_ev scr 162 46 [.ref 24, .int x1, .int x2] [.int s0] w = if s0 ≤ nI 0 then p_ev scr 162 64 [.ref 24, .int x1, .int x2] [] w else p_ev scr 162 49 [.ref 24, .int x1, .int x2] [] w) ∧
  (∀ (scr : pX) (w : pW) (x1 : Int32) (x2 : Int32), p_ev scr 162 49 [.ref 24, .int x1, .int x2] [] w = p_ev scr 162 50 [.ref 24, .int x1, .int x2] [.ref 24] w) ∧
  (∀ (scr : pX) (w : pW) (x1 : Int32) (x2 : Int32), p_ev scr 162 50 [.ref 24, .int x1, .int x2] [.ref 24] w = p_ev scr 162 51 [.ref 24, .int x1, .int x2] [.int x2, .ref 24] w) ∧
  (∀ (scr : pX) (w : pW) (x1 : Int32) (x2 : Int32) (s0 : Int32), p_ev scr 162 51 [.ref 24, .int x1, .int x2] [.int s0, .ref 24] w = p_bnd scr 162 51 54 [.ref 24, .int x1, .int x2] [] (p_ev none 151 0 [.ref 24, .int s0, p_U, p_U, p_U] [] w)) ∧
  (∀ (scr : pX) (w : pW) (x1 : Int32) (x2 : Int32), p_ev scr 162 54 [.ref 24, .int x1, .int x2] [] w = p_ev scr 162 57 [.ref 24, .int x1, .int (x2 + (nI 1))] [] w) ∧
  (∀ (scr : pX) (w : pW) (x1 : Int32) (x2 : Int32), p_ev scr 162 57 [.ref 24, .int x1, .int x2] [] w = p_ev scr 162 58 [.ref 24, .int x1, .int x2] [.ref 24] w) ∧
  (∀ (scr : pX) (w : pW) (x1 : Int32) (x2 : Int32), p_ev scr 162 58 [.ref 24, .int x1, .int x2] [.ref 24] w = p_bnd scr 162 58 61 [.ref 24, .int x1, .int x2] [] (p_ev none 154 0 [.ref 24, p_U, p_U] [] w)) ∧
  (∀ (scr : pX) (w : pW) (x1 : Int32) (x2 : Int32), p_ev scr 162 61 [.ref 24, .int x1, .int x2] [] w = p_ev scr 162 39 [.ref 24, .int x1, .int x2] [] w) ∧
  (∀ (scr : pX) (w : pW) (x1 : Int32) (x2 : Int32), p_ev scr 162 64 [.ref 24, .int x1, .int x2] [] w = p_ev scr 162 65 [.ref 24, .int x1, .int x2] [.int x2] w) ∧
  (∀ (scr : pX) (w : pW) (x1 : Int32) (x2 : Int32) (s0 : Int32), p_ev scr 162 65 [.ref 24, .int x1, .int x2] [.int s0] w = some (.inl (some (.int s0)), w, 0)) :=
  ⟨fun _ _ _ => p_r (by decide +kernel : p_at 162 0 = some (.aload_n 0)) rfl,
  fun _ _ _ => p_r (by decide +kernel : p_at 162 1 = some (.iconst 0)) rfl,
  fun _ _ _ _ => p_rpf (by decide +kernel : p_at 162 2 = some (.putfield 63)) (by decide +kernel : p_fld (p_own 162) 63 = some (5, 4)) (rfl : p_ob 24 = some (.inr (5, [some 25, some 26, none, none, none, some 27, some 28, some 29, some 30, some 31, some 32, some 33, some 34, some 35, some 36, some 37, some 38, some 39, none, none, some 40]))) rfl,
  fun _ _ _ => p_r (by decide +kernel : p_at 162 5 = some (.aload_n 0)) rfl,
  fun _ _ _ => p_rcv (nl := 3) (by decide +kernel : p_at 162 6 = some (.invokevirtual 175)) (by decide +kernel : p_inv (p_own 162) 175 = some (1, 140, 1)) (by decide +kernel) (rfl : p_ob 24 = some (.inr (5, [some 25, some 26, none, none, none, some 27, some 28, some 29, some 30, some 31, some 32, some 33, some 34, some 35, some 36, some 37, some 38, some 39, none, none, some 40]))) rfl rfl (Nat.le_of_ble_eq_true rfl) (Nat.le_of_ble_eq_true rfl) (Nat.le_of_ble_eq_true rfl) rfl,
  fun _ _ _ _ => p_rb1 (c := fun x => decide (¬ x = 0)) (off := 9) (by decide +kernel : p_at 162 9 = some (.ifCond .ne 9)) (by decide +kernel) rfl rfl rfl,
  fun _ _ _ => p_r (by decide +kernel : p_at 162 12 = some (.aload_n 0)) rfl,
  fun _ _ _ => p_r (by decide +kernel : p_at 162 13 = some (.iconst 1)) rfl,
  fun _ _ _ _ => p_rcv (nl := 2) (by decide +kernel : p_at 162 14 = some (.invokevirtual 76)) (by decide +kernel : p_inv (p_own 162) 76 = some (1, 96, 2)) (by decide +kernel) (rfl : p_ob 24 = some (.inr (5, [some 25, some 26, none, none, none, some 27, some 28, some 29, some 30, some 31, some 32, some 33, some 34, some 35, some 36, some 37, some 38, some 39, none, none, some 40]))) rfl rfl (Nat.le_of_ble_eq_true rfl) (Nat.le_of_ble_eq_true rfl) (Nat.le_of_ble_eq_true rfl) rfl,
  fun _ _ _ _ => p_riret (by decide +kernel : p_at 162 17 = some (.ireturn)) (by decide +kernel),
  fun _ _ _ => p_r (by decide +kernel : p_at 162 18 = some (.iload_n 1)) rfl,
  fun _ _ _ _ => p_rb1 (c := fun x => decide (0 ≤ x)) (off := 9) (by decide +kernel : p_at 162 19 = some (.ifCond .ge 9)) (by decide +kernel) rfl rfl rfl,
  fun _ _ _ => p_r (by decide +kernel : p_at 162 22 = some (.aload_n 0)) rfl,
  fun _ _ _ => p_r (by decide +kernel : p_at 162 23 = some (.iconst 2)) rfl,
  fun _ _ _ _ => p_rcv (nl := 2) (by decide +kernel : p_at 162 24 = some (.invokevirtual 76)) (by decide +kernel : p_inv (p_own 162) 76 = some (1, 96, 2)) (by decide +kernel) (rfl : p_ob 24 = some (.inr (5, [some 25, some 26, none, none, none, some 27, some 28, some 29, some 30, some 31, some 32, some 33, some 34, some 35, some 36, some 37, some 38, some 39, none, none, some 40]))) rfl rfl (Nat.le_of_ble_eq_true rfl) (Nat.le_of_ble_eq_true rfl) (Nat.le_of_ble_eq_true rfl) rfl,
  fun _ _ _ _ => p_riret (by decide +kernel : p_at 162 27 = some (.ireturn)) (by decide +kernel),
  fun _ _ _ => p_r (by decide +kernel : p_at 162 28 = some (.aload_n 0)) rfl,
  fun _ _ _ => p_rcv (nl := 2) (by decide +kernel : p_at 162 29 = some (.invokevirtual 230)) (by decide +kernel : p_inv (p_own 162) 230 = some (1, 160, 1)) (by decide +kernel) (rfl : p_ob 24 = some (.inr (5, [some 25, some 26, none, none, none, some 27, some 28, some 29, some 30, some 31, some 32, some 33, some 34, some 35, some 36, some 37, some 38, some 39, none, none, some 40]))) rfl rfl (Nat.le_of_ble_eq_true rfl) (Nat.le_of_ble_eq_true rfl) (Nat.le_of_ble_eq_true rfl) rfl,
  fun _ _ _ => p_r (by decide +kernel : p_at 162 32 = some (.aload_n 0)) rfl,
  fun _ _ _ => p_r (by decide +kernel : p_at 162 33 = some (.iconst 0)) rfl,
  fun _ _ _ _ => p_rcv (nl := 3) (by decide +kernel : p_at 162 34 = some (.invokevirtual 227)) (by decide +kernel : p_inv (p_own 162) 227 = some (1, 157, 2)) (by decide +kernel) (rfl : p_ob 24 = some (.inr (5, [some 25, some 26, none, none, none, some 27, some 28, some 29, some 30, some 31, some 32, some 33, some 34, some 35, some 36, some 37, some 38, some 39, none, none, some 40]))) rfl rfl (Nat.le_of_ble_eq_true rfl) (Nat.le_of_ble_eq_true rfl) (Nat.le_of_ble_eq_true rfl) rfl,
  fun _ _ _ => p_r (by decide +kernel : p_at 162 37 = some (.iconst 0)) rfl,
  fun _ _ _ _ => p_r (by decide +kernel : p_at 162 38 = some (.istore_n 2)) rfl,
  fun _ _ _ _ => p_rcv (nl := 4) (by decide +kernel : p_at 162 40 = some (.invokevirtual 233)) (by decide +kernel : p_inv (p_own 162) 233 = some (1, 159, 1)) (by decide +kernel) (rfl : p_ob 24 = some (.inr (5, [some 25, some 26, none, none, none, some 27, some 28, some 29, some 30, some 31, some 32, some 33, some 34, some 35, some 36, some 37, some 38, some 39, none, none, some 40]))) rfl rfl (Nat.le_of_ble_eq_true rfl) (Nat.le_of_ble_eq_true rfl) (Nat.le_of_ble_eq_true rfl) rfl,
  fun _ _ _ _ _ => p_r (by decide +kernel : p_at 162 43 = some (.iload_n 1)) rfl,
  fun _ _ _ _ _ _ => p_r (by decide +kernel : p_at 162 44 = some (.i2l)) rfl,
  fun _ _ _ _ _ _ => p_r (by decide +kernel : p_at 162 45 = some (.lcmp)) rfl,
  fun _ _ _ _ _ => p_rb1 (c := fun x => decide (x ≤ 0)) (off := 18) (by decide +kernel : p_at 162 46 = some (.ifCond .le 18)) (by decide +kernel) rfl rfl rfl,
  fun _ _ _ _ => p_r (by decide +kernel : p_at 162 49 = some (.aload_n 0)) rfl,
  fun _ _ _ _ => p_r (by decide +kernel : p_at 162 50 = some (.iload_n 2)) rfl,
  fun _ _ _ _ _ => p_rcv (nl := 5) (by decide +kernel : p_at 162 51 = some (.invokevirtual 220)) (by decide +kernel : p_inv (p_own 162) 220 = some (1, 151, 2)) (by decide +kernel) (rfl : p_ob 24 = some (.inr (5, [some 25, some 26, none, none, none, some 27, some 28, some 29, some 30, some 31, some 32, some 33, some 34, some 35, some 36, some 37, some 38, some 39, none, none, some 40]))) rfl rfl (Nat.le_of_ble_eq_true rfl) (Nat.le_of_ble_eq_true rfl) (Nat.le_of_ble_eq_true rfl) rfl,
  fun _ _ _ _ => p_r (by decide +kernel : p_at 162 54 = some (.iinc 2 1)) rfl,
  fun _ _ _ _ => p_r (by decide +kernel : p_at 162 57 = some (.aload_n 0)) rfl,
  fun _ _ _ _ => p_rcv (nl := 3) (by decide +kernel : p_at 162 58 = some (.invokevirtual 224)) (by decide +kernel : p_inv (p_own 162) 224 = some (1, 154, 1)) (by decide +kernel) (rfl : p_ob 24 = some (.inr (5, [some 25, some 26, none, none, none, some 27, some 28, some 29, some 30, some 31, some 32, some 33, some 34, some 35, some 36, some 37, some 38, some 39, none, none, some 40]))) rfl rfl (Nat.le_of_ble_eq_true rfl) (Nat.le_of_ble_eq_true rfl) (Nat.le_of_ble_eq_true rfl) rfl,
  fun _ _ _ _ => p_rgo (by decide +kernel : p_at 162 61 = some (.goto (-22))) (by decide +kernel),
  fun _ _ _ _ => p_r (by decide +kernel : p_at 162 64 = some (.iload_n 2)) rfl,
  fun _ _ _ _ _ => p_riret (by decide +kernel : p_at 162 65 = some (.ireturn)) (by decide +kernel)⟩
theorem H162_39 :
  (∀ (scr : pX) (w : pW) (x1 : Int32) (x2 : Int32), p_ev scr 162 39 [.ref 24, .int x1, .int x2] [] w = p_ev scr 162 40 [.ref 24, .int x1, .int x2] [.ref 24] w) :=
  fun _ _ _ _ => p_r (by decide +kernel : p_at 162 39 = some (.aload_n 0)) rfl
