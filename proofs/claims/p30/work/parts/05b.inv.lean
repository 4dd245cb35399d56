/-! what a step of the pure interpreter says, kind by kind -/
section Inv
variable {k pc pc1 pc2 o : Nat} {L L1 st st1 : List Value} {w w1 : pW}
theorem p_vJ (h : p_J pc L st w = some (.inr (.inl (pc1, L1, st1, w1)))) : pc1 = pc ∧ L1 = L ∧ st1 = st ∧ w1 = w := by
  simp only [p_J, Option.some.injEq, Sum.inr.injEq, Sum.inl.injEq, Prod.mk.injEq] at h
  exact ⟨h.1.symm, h.2.1.symm, h.2.2.1.symm, h.2.2.2.symm⟩
theorem p_vlI (h : p_lI k pc L st w = some (.inr (.inl (pc1, L1, st1, w1)))) : ∃ x, L[k]? = some (.int x) ∧ pc1 = pc ∧ L1 = L ∧ st1 = .int x :: st ∧ w1 = w := by
  unfold p_lI at h; split at h
  · next x hx => exact ⟨x, hx, p_vJ h⟩
  · simp at h
theorem p_vlJ (h : p_lJ k pc L st w = some (.inr (.inl (pc1, L1, st1, w1)))) : ∃ x, L[k]? = some (.long x) ∧ pc1 = pc ∧ L1 = L ∧ st1 = .long x :: st ∧ w1 = w := by
  unfold p_lJ at h; split at h
  · next x hx => exact ⟨x, hx, p_vJ h⟩
  · simp at h
theorem p_vlA (h : p_lA k pc L st w = some (.inr (.inl (pc1, L1, st1, w1)))) : ∃ x, L[k]? = some (.ref x) ∧ pc1 = pc ∧ L1 = L ∧ st1 = .ref x :: st ∧ w1 = w := by
  unfold p_lA at h; split at h
  · next x hx => exact ⟨x, hx, p_vJ h⟩
  · simp at h
theorem p_vsI (h : p_sI k pc L st w = some (.inr (.inl (pc1, L1, st1, w1)))) : ∃ x s, st = .int x :: s ∧ k < L.length ∧ pc1 = pc ∧ L1 = p_st L k (.int x) ∧ st1 = s ∧ w1 = w := by
  unfold p_sI at h; split at h
  · next x s => split at h
                · next hk => exact ⟨x, s, rfl, hk, p_vJ h⟩
                · simp at h
  · simp at h
theorem p_vsJ (h : p_sJ k pc L st w = some (.inr (.inl (pc1, L1, st1, w1)))) : ∃ x s, st = .long x :: s ∧ k + 1 < L.length ∧ pc1 = pc ∧ L1 = (p_st L k (.long x)).set (k + 1) p_U ∧ st1 = s ∧ w1 = w := by
  unfold p_sJ at h; split at h
  · next x s => split at h
                · next hk => exact ⟨x, s, rfl, hk, p_vJ h⟩
                · simp at h
  · simp at h
theorem p_vi1 {f : Int32 → Int32} (h : p_i1 f pc L st w = some (.inr (.inl (pc1, L1, st1, w1)))) : ∃ x s, st = .int x :: s ∧ pc1 = pc ∧ L1 = L ∧ st1 = .int (f x) :: s ∧ w1 = w := by
  unfold p_i1 at h; split at h
  · next x s => exact ⟨x, s, rfl, p_vJ h⟩
  · simp at h
theorem p_vi2 {f : Int32 → Int32 → Int32} (h : p_i2 f pc L st w = some (.inr (.inl (pc1, L1, st1, w1)))) : ∃ x y s, st = .int y :: .int x :: s ∧ pc1 = pc ∧ L1 = L ∧ st1 = .int (f x y) :: s ∧ w1 = w := by
  unfold p_i2 at h; split at h
  · next y x s => exact ⟨x, y, s, rfl, p_vJ h⟩
  · simp at h
theorem p_vi2z {f : Int32 → Int32 → Int32} (h : p_i2z f pc L st w = some (.inr (.inl (pc1, L1, st1, w1)))) : ∃ x y s, st = .int y :: .int x :: s ∧ ¬ y = 0 ∧ pc1 = pc ∧ L1 = L ∧ st1 = .int (f x y) :: s ∧ w1 = w := by
  unfold p_i2z at h; split at h
  · next y x s => split at h
                  · simp at h
                  · next hy => exact ⟨x, y, s, rfl, hy, p_vJ h⟩
  · simp at h
theorem p_vl1 {f : Int64 → Int64} (h : p_l1 f pc L st w = some (.inr (.inl (pc1, L1, st1, w1)))) : ∃ x s, st = .long x :: s ∧ pc1 = pc ∧ L1 = L ∧ st1 = .long (f x) :: s ∧ w1 = w := by
  unfold p_l1 at h; split at h
  · next x s => exact ⟨x, s, rfl, p_vJ h⟩
  · simp at h
theorem p_vl2 {f : Int64 → Int64 → Int64} (h : p_l2 f pc L st w = some (.inr (.inl (pc1, L1, st1, w1)))) : ∃ x y s, st = .long y :: .long x :: s ∧ pc1 = pc ∧ L1 = L ∧ st1 = .long (f x y) :: s ∧ w1 = w := by
  unfold p_l2 at h; split at h
  · next y x s => exact ⟨x, y, s, rfl, p_vJ h⟩
  · simp at h
theorem p_vl2z {f : Int64 → Int64 → Int64} (h : p_l2z f pc L st w = some (.inr (.inl (pc1, L1, st1, w1)))) : ∃ x y s, st = .long y :: .long x :: s ∧ ¬ y = 0 ∧ pc1 = pc ∧ L1 = L ∧ st1 = .long (f x y) :: s ∧ w1 = w := by
  unfold p_l2z at h; split at h
  · next y x s => split at h
                  · simp at h
                  · next hy => exact ⟨x, y, s, rfl, hy, p_vJ h⟩
  · simp at h
theorem p_vlsh {f : Int64 → Int32 → Int64} (h : p_lsh f pc L st w = some (.inr (.inl (pc1, L1, st1, w1)))) : ∃ x y s, st = .int y :: .long x :: s ∧ pc1 = pc ∧ L1 = L ∧ st1 = .long (f x y) :: s ∧ w1 = w := by
  unfold p_lsh at h; split at h
  · next y x s => exact ⟨x, y, s, rfl, p_vJ h⟩
  · simp at h
theorem p_tg_ok {pc : Nat} {off : Int} (h : p_bo pc off = true) : (pc : Int) + off = (p_tg pc off : Int) := by
  simp only [p_bo, decide_eq_true_eq] at h
  simp only [p_tg]
  omega
theorem p_vb2 {c : Int32 → Int32 → Bool} {off : Int} (h : p_b2 c pc off L st w = some (.inr (.inl (pc1, L1, st1, w1)))) : ∃ x y s, st = .int y :: .int x :: s ∧ (pc : Int) + off = (p_tg pc off : Int) ∧ pc1 = (if c x y = true then p_tg pc off else pc + 3) ∧ L1 = L ∧ st1 = s ∧ w1 = w := by
  unfold p_b2 at h; split at h
  · next y x s => split at h
                  · next hb => exact ⟨x, y, s, rfl, p_tg_ok hb, p_vJ h⟩
                  · simp at h
  · simp at h
theorem p_vb1 {c : Int32 → Bool} {off : Int} (h : p_b1 c pc off L st w = some (.inr (.inl (pc1, L1, st1, w1)))) : ∃ x s, st = .int x :: s ∧ (pc : Int) + off = (p_tg pc off : Int) ∧ pc1 = (if c x = true then p_tg pc off else pc + 3) ∧ L1 = L ∧ st1 = s ∧ w1 = w := by
  unfold p_b1 at h; split at h
  · next x s => split at h
                · next hb => exact ⟨x, s, rfl, p_tg_ok hb, p_vJ h⟩
                · simp at h
  · simp at h
theorem p_vgf {mi idx : Nat} (h : p_gf mi idx pc L st w = some (.inr (.inl (pc1, L1, st1, w1)))) : ∃ o s ci k fs f, st = .ref o :: s ∧ p_fld (p_own mi) idx = some (ci, k) ∧ p_ob o = some (.inr (ci, fs)) ∧ fs[k]? = some f ∧ pc1 = pc + 3 ∧ L1 = L ∧ st1 = p_fv w o k f :: s ∧ w1 = w := by
  unfold p_gf at h; split at h
  · next o s => split at h
                · next ci k hf => split at h
                                  · next cj fs ho => split at h
                                                     · next hc => subst hc
                                                                  split at h
                                                                  · next f hk => exact ⟨o, s, cj, k, fs, f, rfl, hf, ho, hk, p_vJ h⟩
                                                                  · simp at h
                                                     · simp at h
                                  · simp at h
                · simp at h
  · simp at h
theorem p_vpf {mi idx : Nat} (h : p_pf mi idx pc L st w = some (.inr (.inl (pc1, L1, st1, w1)))) : ∃ o s ci k fs v, st = .int v :: .ref o :: s ∧ p_fld (p_own mi) idx = some (ci, k) ∧ p_ob o = some (.inr (ci, fs)) ∧ fs[k]? = some none ∧ pc1 = pc + 3 ∧ L1 = L ∧ st1 = s ∧ w1 = (p_u w.1 o k v, w.2) := by
  unfold p_pf at h; split at h
  · next v o s => split at h
                  · next ci k hf => split at h
                                    · next cj fs ho => split at h
                                                       · next hc => subst hc
                                                                    split at h
                                                                    · next hk => exact ⟨o, s, cj, k, fs, v, rfl, hf, ho, hk, p_vJ h⟩
                                                                    · simp at h
                                                       · simp at h
                                    · simp at h
                  · simp at h
  · simp at h
theorem p_out_in {i : Int32} {n : Nat} (h : p_out i n = false) : vp_in i n := by
  simp only [p_out, decide_eq_false_iff_not] at h
  exact h
theorem p_vald {scr : pX} {t0 : Nat} (h : p_ald scr t0 pc L st w = some (.inr (.inl (pc1, L1, st1, w1)))) : ∃ o i s, st = .int i :: .ref o :: s ∧ pc1 = pc + 1 ∧ L1 = L ∧ w1 = w ∧
    ((∃ n, p_ob o = some (.inl (t0, n)) ∧ vp_in i n ∧ st1 = .int (w.2.2 o i.toNatClampNeg) :: s) ∨ (∃ n xs, scr = some (n, xs) ∧ o = 999 ∧ t0 = 1 ∧ vp_in i n ∧ st1 = .int (xs i.toNatClampNeg) :: s)) := by
  unfold p_ald at h; split at h
  · next i o s => split at h
                  · next t n ho => split at h
                                   · next hc => obtain ⟨rfl, hi⟩ := hc
                                                obtain ⟨a, b, c, d⟩ := p_vJ h
                                                exact ⟨o, i, s, rfl, a, b, d, Or.inl ⟨n, ho, p_out_in hi, c⟩⟩
                                   · simp at h
                  · simp at h
                  · next ho => split at h
                               · next n xs => split at h
                                              · next hc => obtain ⟨ho9, ht, hi⟩ := hc
                                                           obtain ⟨a, b, c, d⟩ := p_vJ h
                                                           exact ⟨o, i, s, rfl, a, b, d, Or.inr ⟨n, xs, rfl, ho9, ht, p_out_in hi, c⟩⟩
                                              · simp at h
                               · simp at h
  · simp at h
theorem p_vlald (h : p_lald pc L st w = some (.inr (.inl (pc1, L1, st1, w1)))) : ∃ o i s n, st = .int i :: .ref o :: s ∧ p_ob o = some (.inl (2, n)) ∧ vp_in i n ∧ pc1 = pc + 1 ∧ L1 = L ∧ st1 = .long (w.2.1 o i.toNatClampNeg) :: s ∧ w1 = w := by
  unfold p_lald at h; split at h
  · next i o s => split at h
                  · next t n ho => split at h
                                   · next hc => obtain ⟨rfl, hi⟩ := hc
                                                exact ⟨o, i, s, n, rfl, ho, p_out_in hi, p_vJ h⟩
                                   · simp at h
                  · simp at h
  · simp at h
theorem p_vbald (h : p_bald pc L st w = some (.inr (.inl (pc1, L1, st1, w1)))) : ∃ o i s t n, st = .int i :: .ref o :: s ∧ p_ob o = some (.inl (t, n)) ∧ (t = 0 ∨ t = 3) ∧ vp_in i n ∧ pc1 = pc + 1 ∧ L1 = L ∧ st1 = .int (w.2.2 o i.toNatClampNeg) :: s ∧ w1 = w := by
  unfold p_bald at h; split at h
  · next i o s => split at h
                  · next t n ho => split at h
                                   · next hc => exact ⟨o, i, s, t, n, rfl, ho, hc.1, p_out_in hc.2, p_vJ h⟩
                                   · simp at h
                  · simp at h
  · simp at h
theorem p_vbast (h : p_bast pc L st w = some (.inr (.inl (pc1, L1, st1, w1)))) : ∃ o i x s t n, st = .int x :: .int i :: .ref o :: s ∧ p_ob o = some (.inl (t, n)) ∧ (t = 0 ∨ t = 3) ∧ vp_in i n ∧ pc1 = pc + 1 ∧ L1 = L ∧ st1 = s ∧ w1 = (w.1, w.2.1, p_u w.2.2 o i.toNatClampNeg (vp_nar (p_bty t) x)) := by
  unfold p_bast at h; split at h
  · next x i o s => split at h
                    · next t n ho => split at h
                                     · next hc => exact ⟨o, i, x, s, t, n, rfl, ho, hc.1, p_out_in hc.2, p_vJ h⟩
                                     · simp at h
                    · simp at h
  · simp at h
theorem p_viast (h : p_iast pc L st w = some (.inr (.inl (pc1, L1, st1, w1)))) : ∃ o i x s n, st = .int x :: .int i :: .ref o :: s ∧ p_ob o = some (.inl (1, n)) ∧ vp_in i n ∧ pc1 = pc + 1 ∧ L1 = L ∧ st1 = s ∧ w1 = (w.1, w.2.1, p_u w.2.2 o i.toNatClampNeg x) := by
  unfold p_iast at h; split at h
  · next x i o s => split at h
                    · next t n ho => split at h
                                     · next hc => obtain ⟨rfl, hi⟩ := hc
                                                  exact ⟨o, i, x, s, n, rfl, ho, p_out_in hi, p_vJ h⟩
                                     · simp at h
                    · simp at h
  · simp at h
theorem p_vlast (h : p_last pc L st w = some (.inr (.inl (pc1, L1, st1, w1)))) : ∃ o i x s n, st = .long x :: .int i :: .ref o :: s ∧ p_ob o = some (.inl (2, n)) ∧ vp_in i n ∧ pc1 = pc + 1 ∧ L1 = L ∧ st1 = s ∧ w1 = (w.1, p_u w.2.1 o i.toNatClampNeg x, w.2.2) := by
  unfold p_last at h; split at h
  · next x i o s => split at h
                    · next t n ho => split at h
                                     · next hc => obtain ⟨rfl, hi⟩ := hc
                                                  exact ⟨o, i, x, s, n, rfl, ho, p_out_in hi, p_vJ h⟩
                                     · simp at h
                    · simp at h
  · simp at h
theorem p_valen {scr : pX} (h : p_alen scr pc L st w = some (.inr (.inl (pc1, L1, st1, w1)))) : ∃ o s, st = .ref o :: s ∧ pc1 = pc + 1 ∧ L1 = L ∧ w1 = w ∧
    ((∃ t n, p_ob o = some (.inl (t, n)) ∧ st1 = .int (Int32.ofNat n) :: s) ∨ (∃ n xs, scr = some (n, xs) ∧ o = 999 ∧ st1 = .int (Int32.ofNat n) :: s)) := by
  unfold p_alen at h; split at h
  · next o s => split at h
                · next t n ho => obtain ⟨a, b, c, d⟩ := p_vJ h
                                 exact ⟨o, s, rfl, a, b, d, Or.inl ⟨t, n, ho, c⟩⟩
                · simp at h
                · next ho => split at h
                             · next n xs => split at h
                                            · next hc => obtain ⟨a, b, c, d⟩ := p_vJ h
                                                         exact ⟨o, s, rfl, a, b, d, Or.inr ⟨n, xs, rfl, hc, c⟩⟩
                                            · simp at h
                             · simp at h
  · simp at h
theorem p_vdup (h : p_dup pc L st w = some (.inr (.inl (pc1, L1, st1, w1)))) : ∃ v s, st = v :: s ∧ v.category = 1 ∧ pc1 = pc + 1 ∧ L1 = L ∧ st1 = v :: v :: s ∧ w1 = w := by
  unfold p_dup at h; split at h
  · next v s => split at h
                · next hc => exact ⟨v, s, rfl, hc, p_vJ h⟩
                · simp at h
  · simp at h
theorem p_vdup2 (h : p_dup2 pc L st w = some (.inr (.inl (pc1, L1, st1, w1)))) : ∃ v u s, st = v :: u :: s ∧ v.category = 1 ∧ u.category = 1 ∧ pc1 = pc + 1 ∧ L1 = L ∧ st1 = v :: u :: v :: u :: s ∧ w1 = w := by
  unfold p_dup2 at h; split at h
  · next v u s => split at h
                  · next hc => exact ⟨v, u, s, rfl, hc.1, hc.2, p_vJ h⟩
                  · simp at h
  · simp at h
theorem p_vpop (h : p_pop pc L st w = some (.inr (.inl (pc1, L1, st1, w1)))) : ∃ v s, st = v :: s ∧ v.category = 1 ∧ pc1 = pc + 1 ∧ L1 = L ∧ st1 = s ∧ w1 = w := by
  unfold p_pop at h; split at h
  · next v s => split at h
                · next hc => exact ⟨v, s, rfl, hc, p_vJ h⟩
                · simp at h
  · simp at h
theorem p_vinc {n : Int} (h : p_inc k n pc L st w = some (.inr (.inl (pc1, L1, st1, w1)))) : ∃ x, L[k]? = some (.int x) ∧ pc1 = pc + 3 ∧ L1 = L.set k (.int (x + Int32.ofInt n)) ∧ st1 = st ∧ w1 = w := by
  unfold p_inc at h; split at h
  · next x hx => exact ⟨x, hx, p_vJ h⟩
  · simp at h
theorem p_vgt {mi : Nat} {off : Int} (h : p_gt mi pc off L st w = some (.inr (.inl (pc1, L1, st1, w1)))) : (pc : Int) + off = (p_tg pc off : Int) ∧ pc1 = p_tg pc off ∧ L1 = L ∧ st1 = st ∧ w1 = w := by
  unfold p_gt at h; split at h
  · next hb => split at h
               · split at h <;> simp [p_D] at h
               · exact ⟨p_tg_ok hb, p_vJ h⟩
  · simp at h
theorem p_vswt {d lo hi : Int} {os : Array Int} (h : p_swt pc d lo hi os L st w = some (.inr (.inl (pc1, L1, st1, w1)))) : ∃ x s, st = .int x :: s ∧ L1 = L ∧ st1 = s ∧ w1 = w ∧
    (((x.toInt < lo ∨ hi < x.toInt) ∧ (pc : Int) + d = (pc1 : Int)) ∨ (¬ x.toInt < lo ∧ ¬ hi < x.toInt ∧ ∃ off, os[(x.toInt - lo).toNat]? = some off ∧ (pc : Int) + off = (pc1 : Int))) := by
  unfold p_swt at h; split at h
  · next x s => split at h
                · next hx => split at h
                             · next hb => obtain ⟨a, b, c, e⟩ := p_vJ h
                                          exact ⟨x, s, rfl, b, c, e, Or.inl ⟨hx, by rw [a]; exact p_tg_ok hb⟩⟩
                             · simp at h
                · next hx => split at h
                             · next off ho => split at h
                                              · next hb => obtain ⟨a, b, c, e⟩ := p_vJ h
                                                           exact ⟨x, s, rfl, b, c, e, Or.inr ⟨fun z => hx (Or.inl z), fun z => hx (Or.inr z), off, ho, by rw [a]; exact p_tg_ok hb⟩⟩
                                              · simp at h
                             · simp at h
  · simp at h
theorem p_viv {virt : Bool} {mi idx : Nat} (h : p_iv virt mi idx pc L st w = some (.inr (.inl (pc1, L1, st1, w1)))) : virt = false ∧ p_mok mi = true ∧ pc1 = pc + 3 ∧ L1 = L ∧ w1 = w ∧
    ((∃ x s n, p_inv (p_own mi) idx = some (0, 0, n) ∧ st = .long x :: s ∧ p_cs s ≤ 8 ∧ st1 = .long (p_abs x) :: s) ∨ (∃ x y s n, p_inv (p_own mi) idx = some (0, 1, n) ∧ st = .long y :: .long x :: s ∧ p_cs s ≤ 8 ∧ st1 = .long (p_max x y) :: s) ∨ (∃ x y s mj n, p_inv (p_own mi) idx = some (0, mj, n) ∧ mj ≠ 0 ∧ mj ≠ 1 ∧ st = .long y :: .long x :: s ∧ p_cs s ≤ 8 ∧ st1 = .long (p_min x y) :: s)) := by
  unfold p_iv at h; split at h
  · next n hi => split at h
                 · next x s => split at h
                               · next hc => obtain ⟨a, b, c, d⟩ := p_vJ h
                                            exact ⟨hc.1, hc.2.2, a, b, d, Or.inl ⟨x, s, n, hi, rfl, hc.2.1, c⟩⟩
                               · simp at h
                 · simp at h
  · next n hi => split at h
                 · next y x s => split at h
                                 · next hc => obtain ⟨a, b, c, d⟩ := p_vJ h
                                              exact ⟨hc.1, hc.2.2, a, b, d, Or.inr (Or.inl ⟨x, y, s, n, hi, rfl, hc.2.1, c⟩)⟩
                                 · simp at h
                 · simp at h
  · next mj n h0 h1 hi => split at h
                          · next y x s => split at h
                                          · next hc => obtain ⟨a, b, c, d⟩ := p_vJ h
                                                       exact ⟨hc.1, hc.2.2, a, b, d, Or.inr (Or.inr ⟨x, y, s, mj, n, hi, h0, h1, rfl, hc.2.1, c⟩)⟩
                                          · simp at h
                          · simp at h
  · split at h
    · split at h
      · split at h
        · split at h
          · split at h <;> simp at h
          · simp at h
        · simp at h
      · simp at h
    · simp at h
  · simp at h
end Inv
