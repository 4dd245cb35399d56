/-! FROM WAVELET TO WAVELET, AT THE ROOT -/
theorem bn_ln_c {c d a b : Int} {u v : List Int} : bn_ln c d (a :: u) (b :: v) = (c * a + d * b) :: bn_ln c d u v := by
  show bn_cs (Int.add (Int.mul c a) (Int.mul d b)) (bn_ln c d u v) = _
  rw [bn_cs_eq]; rfl
theorem bn_ln_len {c d : Int} : ∀ u v : List Int, u.length = v.length → (bn_ln c d u v).length = u.length
  | [], _, _ => rfl
  | _ :: _, [], h => by simp at h
  | a :: u, b :: v, h => by
    simp only [List.length_cons] at h
    rw [bn_ln_c, List.length_cons, List.length_cons, bn_ln_len u v (by omega)]
theorem bo_dl_ln {c d : Int} : ∀ u v xs : List Int, u.length = v.length → bo_dl (bn_ln c d u v) xs = c * bo_dl u xs + d * bo_dl v xs
  | [], [], xs, _ => by
    show bo_dl [] xs = _
    simp [bo_dl]
  | [], _ :: _, _, h => by simp at h
  | _ :: _, [], _, h => by simp at h
  | a :: u, b :: v, [], _ => by rw [bn_ln_c]; simp [bo_dl]
  | a :: u, b :: v, x :: xs, h => by
    simp only [List.length_cons] at h
    rw [bn_ln_c, bo_dl, bo_dl, bo_dl, bo_dl_ln u v xs (by omega)]
    grind
theorem bn_m2_t {c d : Int} : ∀ M N : List (List Int), bo_tri M → bo_tri N → M.length = N.length → bo_tri (bn_m2 c d M N) ∧ (bn_m2 c d M N).length = M.length ∧ ∀ xs, bo_qf (bn_m2 c d M N) xs = c * bo_qf M xs + d * bo_qf N xs
  | [], [], _, _, _ => ⟨trivial, rfl, fun xs => by
    show bo_qf [] xs = _
    simp [bo_qf]⟩
  | [], _ :: _, _, _, h => by simp at h
  | _ :: _, [], _, _, h => by simp at h
  | [] :: _, _ :: _, h, _, _ => by simp [bo_tri] at h
  | (_ :: _) :: _, [] :: _, _, h, _ => by simp [bo_tri] at h
  | (a :: u) :: M, (b :: v) :: N, h1, h2, h3 => by
    simp only [List.length_cons] at h3
    have l1 : u.length = M.length := by have := h1.1; simpa using this
    have l2 : v.length = N.length := by have := h2.1; simpa using this
    obtain ⟨i1, i2, i3⟩ := bn_m2_t (c := c) (d := d) M N h1.2 h2.2 (by omega)
    have e : bn_m2 c d ((a :: u) :: M) ((b :: v) :: N) = bn_ln c d (a :: u) (b :: v) :: bn_m2 c d M N := rfl
    rw [e, bn_ln_c]
    refine ⟨⟨?_, i1⟩, ?_, fun xs => ?_⟩
    · rw [List.length_cons, bn_ln_len u v (by omega), i2, l1]
    · rw [List.length_cons, List.length_cons, i2]
    · cases xs with
      | nil => simp [bo_qf]
      | cons x xs =>
        rw [bo_qf, bo_qf, bo_qf, i3, bo_dl_ln u v xs (by omega)]
        grind
section Tr
variable {n w v : Nat}
theorem bo_rt_in {a : Nat} (h : bo_in n (q_bs 0) a) : a / 32 = 1 := by
  have h2 := h.2.1
  unfold bo_lf at h2
  rw [Bool.and_eq_true] at h2
  have h3 := h2.1
  unfold q_ex at h3
  rw [Bool.or_eq_true, decide_eq_true_eq] at h3
  rcases h3 with h3 | h3
  · exact h3
  · rw [Bool.and_eq_true] at h3
    have : q_bs 0 (a / 32 / 2) = false := Nat.zero_testBit _
    rw [this] at h3
    exact absurd h3.2 Bool.false_ne_true
theorem bo_g1 : bo_g w 1 = (bn_S w : Int) ^ 3 := by
  unfold bo_g
  rw [show bo_lows 1 = 0 from rfl, show q_lv 1 = 0 from rfl]
  grind
noncomputable def bo_fr (n w : Nat) (z : Nat → Int) : Int := bo_nq n (bo_dw n w) (bo_Lc ((bo_ls n (q_bs 0)).map z) ((bo_ls n (q_bs 0)).map (bo_at (bo_U n w))))
theorem bo_nz_fr (hn : n ≤ 32) (z : Nat → Int) : bo_nz n w (q_bs 0) z = (bn_S w : Int) ^ 3 * (bn_S w : Int) ^ 3 * bo_fr n w z := by
  unfold bo_fr bo_nz
  rw [← bo_nq_mul]
  refine bo_nq_cg fun c _ => ?_
  rw [bo_Lc_map, bo_w_ls, ← bo_w_mul]
  unfold bo_Z
  refine bo_w_cg hn fun a ha => ?_
  rw [bo_rt_in ha, bo_g1]
  unfold bo_ra
  grind
theorem bo_tr4 (hw : bo_ok n w) (hv : bo_ok n v) (hn : n ≤ 32) {a0 : Nat} (h0 : bo_av n a0) (ht : bo_tra n w v = true) (z : Nat → Int) : bo_qy ^ 4 * (bo_nz n v (q_bs 0) z * (bo_sg w * bo_sg w)) ≤ bo_py ^ 4 * (bo_nz n w (q_bs 0) z * (bo_sg v * bo_sg v)) := by
  have hm := bn_m2_t (c := bo_py ^ 4) (d := -bo_qy ^ 4) (bn_tri (bo_de n w) ((bo_ls n (q_bs 0)).map (bo_at (bo_U n w)))) (bn_tri (bo_de n v) ((bo_ls n (q_bs 0)).map (bo_at (bo_U n v)))) (bn_tri_t _) (bn_tri_t _) (by rw [bn_tri_len, bn_tri_len, List.length_map, List.length_map])
  have hp := bo_psd_ok n _ hm.1 (bn_psd_eq _ _ ht) ((bo_ls n (q_bs 0)).map z) (by rw [hm.2.1, bn_tri_len, List.length_map, List.length_map])
  rw [hm.2.2, bo_qf_tri (bo_ok_len hw h0).2.2 _ _ (bo_us_len hw hn) (by rw [List.length_map, List.length_map]), bo_qf_tri (bo_ok_len hv h0).2.2 _ _ (bo_us_len hv hn) (by rw [List.length_map, List.length_map])] at hp
  have hp2 : 0 ≤ bo_py ^ 4 * bo_fr n w z + -bo_qy ^ 4 * bo_fr n v z := hp
  rw [bo_nz_fr hn, bo_nz_fr hn]
  unfold bo_sg
  generalize bo_fr n w z = f at *
  generalize bo_fr n v z = g at *
  generalize hs : (bn_S w : Int) ^ 3 = s at *
  generalize hr : (bn_S v : Int) ^ 3 = r at *
  have hs0 := bo_sq0 (s * r * (4095 * 2 ^ 10))
  have m := Int.mul_nonneg hp2 hs0
  have e : bo_py ^ 4 * (s * s * f * (4095 * r * 2 ^ 10 * (4095 * r * 2 ^ 10))) - bo_qy ^ 4 * (r * r * g * (4095 * s * 2 ^ 10 * (4095 * s * 2 ^ 10))) = (bo_py ^ 4 * f + -bo_qy ^ 4 * g) * (s * r * (4095 * 2 ^ 10) * (s * r * (4095 * 2 ^ 10))) := by grind
  omega
end Tr
