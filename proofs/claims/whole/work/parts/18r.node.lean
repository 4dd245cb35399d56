/-! A NODE'S VECTORS OUT OF ITS CHILDREN'S -/
def bo_cm (x y : Int) (p q : bo_p) : bo_p := (fun k => x * p.1 k + y * q.1 k, fun k => x * p.2 k + y * q.2 k)
theorem bo_lO_cm {D c0 c1 x y : Int} {h : Nat} {p q : bo_p} : bo_lO D c0 c1 h (bo_cm x y p q) = bo_cm x y (bo_lO D c0 c1 h p) (bo_lO D c0 c1 h q) := by
  unfold bo_lO bo_cm
  refine Prod.ext (funext fun k => ?_) (funext fun k => ?_) <;> dsimp only <;> grind
theorem bo_lE_cm {D c0 c1 x y : Int} {p q : bo_p} : bo_lE D c0 c1 (bo_cm x y p q) = bo_cm x y (bo_lE D c0 c1 p) (bo_lE D c0 c1 q) := by
  unfold bo_lE bo_cm
  refine Prod.ext (funext fun k => ?_) (funext fun k => ?_) <;> dsimp only <;> grind
theorem bo_lsp_cm {w h : Nat} {x y : Int} {p q : bo_p} : bo_lsp w h (bo_cm x y p q) = bo_cm x y (bo_lsp w h p) (bo_lsp w h q) := by
  unfold bo_lsp
  by_cases h0 : w = 0
  · rw [if_pos h0, if_pos h0, if_pos h0, bo_lO_cm, bo_lE_cm]
  · rw [if_neg h0, if_neg h0, if_neg h0]
    by_cases h1 : w = 1
    · rw [if_pos h1, if_pos h1, if_pos h1, bo_lO_cm, bo_lE_cm]
    · rw [if_neg h1, if_neg h1, if_neg h1, bo_lO_cm, bo_lE_cm, bo_lO_cm, bo_lE_cm]
def bo_eqh (h : Nat) (p q : bo_p) : Prop := ∀ k, k < h → p.1 k = q.1 k ∧ p.2 k = q.2 k
theorem bo_lO_cg {D c0 c1 : Int} {h : Nat} {p q : bo_p} (h1 : 1 ≤ h) (e : bo_eqh h p q) : bo_eqh h (bo_lO D c0 c1 h p) (bo_lO D c0 c1 h q) := by
  intro k hk
  unfold bo_lO
  dsimp only
  rw [(e k hk).1, (e k hk).2, (e _ (q_nx_lt h1 hk)).1]
  exact ⟨rfl, rfl⟩
theorem bo_lE_cg {D c0 c1 : Int} {h : Nat} {p q : bo_p} (e : bo_eqh h p q) : bo_eqh h (bo_lE D c0 c1 p) (bo_lE D c0 c1 q) := by
  intro k hk
  unfold bo_lE
  dsimp only
  rw [(e k hk).1, (e k hk).2, (e (k - 1) (by omega)).2]
  exact ⟨rfl, rfl⟩
theorem bo_lsp_cg {w h : Nat} {p q : bo_p} (h1 : 1 ≤ h) (e : bo_eqh h p q) : bo_eqh h (bo_lsp w h p) (bo_lsp w h q) := by
  unfold bo_lsp
  by_cases h0 : w = 0
  · rw [if_pos h0, if_pos h0]
    exact bo_lE_cg (bo_lO_cg h1 e)
  · rw [if_neg h0, if_neg h0]
    by_cases h2 : w = 1
    · rw [if_pos h2, if_pos h2]
      exact bo_lE_cg (bo_lO_cg h1 e)
    · rw [if_neg h2, if_neg h2]
      exact bo_lE_cg (bo_lO_cg h1 (bo_lE_cg (bo_lO_cg h1 e)))
/-! the check of the node's vectors -/
theorem bn_fi_eq {β : Type} : ∀ (x : Int) (k : Int → β), bn_fi x k = k x
  | Int.ofNat 0, _ => rfl
  | Int.ofNat (_ + 1), _ => rfl
  | Int.negSucc 0, _ => rfl
  | Int.negSucc (_ + 1), _ => rfl
theorem bn_fv_eq {β : Type} : ∀ (xs : List Int) (k : List Int → β), bn_fv xs k = k xs
  | [], _ => rfl
  | x :: xs, k => by
    show bn_fi x (fun x' => bn_fv xs fun xs' => k (x' :: xs')) = _
    rw [bn_fi_eq, bn_fv_eq xs]
theorem bn_ln_d {c d : Int} : ∀ (u v : List Int), u.length = v.length → ∀ i, (bn_ln c d u v).getD i 0 = c * u.getD i 0 + d * v.getD i 0
  | [], [], _, i => by
    show ([] : List Int).getD i 0 = _
    simp
  | [], _ :: _, h, _ => by simp at h
  | _ :: _, [], h, _ => by simp at h
  | a :: u, b :: v, h, 0 => by rw [bn_ln_c]; rfl
  | a :: u, b :: v, h, i + 1 => by
    simp only [List.length_cons] at h
    rw [bn_ln_c]; exact bn_ln_d u v (by omega) i
theorem bn_cb_c {n : Nat} {x : Int} {u : List Int} {cs : List Int} {us : bn_VV} : bn_cb n (x :: cs) (u :: us) = if x = 0 then bn_cb n cs us else bn_ln x 1 u (bn_cb n cs us) := rfl
theorem bn_cb_d {n : Nat} : ∀ (cs : List Int) (us : bn_VV), (∀ u ∈ us, u.length = n) → (bn_cb n cs us).length = n ∧ ∀ c, (bn_cb n cs us).getD c 0 = bo_Lc cs us c
  | [], us, _ => by
    refine ⟨List.length_replicate, fun c => ?_⟩
    rw [bo_Lc]
    · show (List.replicate n (0 : Int)).getD c 0 = 0
      rw [List.getD_eq_getElem?_getD, List.getElem?_replicate]
      split <;> rfl
    · intro x xs u us h; cases h
  | _ :: _, [], _ => by
    refine ⟨List.length_replicate, fun c => ?_⟩
    rw [bo_Lc]
    · show (List.replicate n (0 : Int)).getD c 0 = 0
      rw [List.getD_eq_getElem?_getD, List.getElem?_replicate]
      split <;> rfl
    · intro x xs u us _ h; cases h
  | x :: cs, u :: us, hu => by
    have ih := bn_cb_d cs us (fun v hv => hu v (List.mem_cons_of_mem _ hv))
    have hul := hu u List.mem_cons_self
    rw [bn_cb_c]
    by_cases hx : x = 0
    · rw [if_pos hx]
      refine ⟨ih.1, fun c => ?_⟩
      rw [ih.2, bo_Lc]
      show _ = x * u.getD c 0 + bo_Lc cs us c
      rw [hx, Int.zero_mul, Int.zero_add]
    · rw [if_neg hx]
      refine ⟨by rw [bn_ln_len _ _ (by rw [hul, ih.1]), hul], fun c => ?_⟩
      rw [bn_ln_d _ _ (by rw [hul, ih.1]), ih.2, bo_Lc, Int.one_mul]
section No
variable {n w i : Nat}
theorem bo_kids (hn : n = 4 ∨ n = 8 ∨ n = 16 ∨ n = 32) (h1 : 1 ≤ i) (h8 : i < 8) (h2 : 2 ≤ q_wd n i) : (∀ t, t < q_wd n i → bo_av n (32 * i + t)) ∧ (∀ q, q < q_wd n i / 2 → bo_av n (64 * i + q) ∧ bo_av n (64 * i + 32 + q)) := by
  have g := q_geo1 n hn i h8 h1 h2
  have hw := q_wdle n i
  have hn32 : n ≤ 32 := by omega
  refine ⟨fun t ht => ?_, fun q hq => ⟨?_, ?_⟩⟩
  · unfold bo_av
    rw [show (32 * i + t) / 32 = i by omega, show (32 * i + t) % 32 = t by omega]
    exact ⟨h1, by omega, ht⟩
  · unfold bo_av
    rw [show (64 * i + q) / 32 = 2 * i by omega, show (64 * i + q) % 32 = q by omega, g.2.2.1]
    exact ⟨by omega, by omega, hq⟩
  · unfold bo_av
    rw [show (64 * i + 32 + q) / 32 = 2 * i + 1 by omega, show (64 * i + 32 + q) % 32 = q by omega, g.2.2.2.1]
    exact ⟨by omega, by omega, hq⟩
theorem bo_lin_of (h : bo_ok n w) (hn : n = 4 ∨ n = 8 ∨ n = 16 ∨ n = 32) (h1 : 1 ≤ i) (h8 : i < 8) (h2 : 2 ≤ q_wd n i) {t : Nat} (ht : t < q_wd n i) (c : Nat) : (bn_S w : Int) ^ 2 * bo_ra n w (32 * i + t) c = bo_s (q_wd n i / 2) (fun q => bo_D4 w * (bo_lsp w (q_wd n i / 2) (bo_ep t)).1 q * bo_ra n w (64 * i + q) c) + bo_s (q_wd n i / 2) (fun q => (bo_lsp w (q_wd n i / 2) (bo_ep t)).2 q * bo_ra n w (64 * i + 32 + q) c) := by
  have hk := bo_kids hn h1 h8 h2
  have h3 := List.all_eq_true.mp h.2.2.2.2.2 i (List.mem_range.mpr h8)
  have d1 : decide (i = 0) = false := decide_eq_false (by omega)
  have d2 : decide (q_wd n i < 2) = false := decide_eq_false (by omega)
  rw [d1, d2, Bool.false_or, Bool.false_or] at h3
  have h4 := List.all_eq_true.mp h3 t (List.mem_range.mpr ht)
  rw [bn_fv_eq, bn_fv_eq] at h4
  have h5 := of_decide_eq_true h4
  have h6 := congrArg (fun l => List.getD l c 0) h5
  have v1 : ∀ u ∈ (List.range (q_wd n i / 2)).map fun q => bo_at (bo_U n w) (64 * i + q), u.length = n := by
    intro u hu
    obtain ⟨q, q1, q2⟩ := List.mem_map.mp hu
    rw [List.mem_range] at q1
    subst q2
    exact (bo_ok_len h (hk.2 q q1).1).1
  have v2 : ∀ u ∈ (List.range (q_wd n i / 2)).map fun q => bo_at (bo_U n w) (64 * i + 32 + q), u.length = n := by
    intro u hu
    obtain ⟨q, q1, q2⟩ := List.mem_map.mp hu
    rw [List.mem_range] at q1
    subst q2
    exact (bo_ok_len h (hk.2 q q1).2).1
  have b1 := bn_cb_d ((List.range (q_wd n i / 2)).map fun q => bo_D4 w * (bo_lsp w (q_wd n i / 2) (bo_ep t)).1 q) _ v1
  have b2 := bn_cb_d ((List.range (q_wd n i / 2)).map fun q => (bo_lsp w (q_wd n i / 2) (bo_ep t)).2 q) _ v2
  rw [bn_ln_d _ _ (by rw [b1.1, b2.1]), b1.2, b2.2, bo_Lc_map, bo_Lc_map, bo_sum_rg, bo_sum_rg, Int.one_mul, Int.one_mul, bn_mp_eq] at h6
  have e : (List.map (Int.mul ((bn_S w : Int) ^ 2)) (bo_at (bo_U n w) (32 * i + t))).getD c 0 = (bn_S w : Int) ^ 2 * bo_ra n w (32 * i + t) c := by
    unfold bo_ra
    generalize bo_at (bo_U n w) (32 * i + t) = l
    rw [List.getD_eq_getElem?_getD, List.getD_eq_getElem?_getD, List.getElem?_map]
    cases l[c]? with
    | none => exact (Int.mul_zero _).symm
    | some v => rfl
  rw [e] at h6
  exact h6
/-- the pair of a signal -/
def bo_pz (z : Nat → Int) : bo_p := (fun k => z (2 * k), fun k => z (2 * k + 1))
/-- what the children's vectors make of a signal -/
noncomputable def bo_F (n w i : Nat) (c : Nat) (p : bo_p) : Int := bo_s (q_wd n i / 2) (fun q => bo_D4 w * (bo_lsp w (q_wd n i / 2) p).1 q * bo_ra n w (64 * i + q) c) + bo_s (q_wd n i / 2) (fun q => (bo_lsp w (q_wd n i / 2) p).2 q * bo_ra n w (64 * i + 32 + q) c)
theorem bo_F_cm {c : Nat} {x y : Int} {p q : bo_p} : bo_F n w i c (bo_cm x y p q) = x * bo_F n w i c p + y * bo_F n w i c q := by
  unfold bo_F
  rw [bo_lsp_cm]
  unfold bo_cm
  dsimp only
  generalize q_wd n i / 2 = H
  generalize (bo_lsp w H p).1 = P1
  generalize (bo_lsp w H p).2 = P2
  generalize (bo_lsp w H q).1 = Q1
  generalize (bo_lsp w H q).2 = Q2
  have s1 : bo_s H (fun k => bo_D4 w * (x * P1 k + y * Q1 k) * bo_ra n w (64 * i + k) c) = x * bo_s H (fun k => bo_D4 w * P1 k * bo_ra n w (64 * i + k) c) + y * bo_s H (fun k => bo_D4 w * Q1 k * bo_ra n w (64 * i + k) c) := by
    rw [← bo_s_mul, ← bo_s_mul, ← bo_s_add]
    exact bo_s_cg _ fun k _ => by grind
  have s2 : bo_s H (fun k => (x * P2 k + y * Q2 k) * bo_ra n w (64 * i + 32 + k) c) = x * bo_s H (fun k => P2 k * bo_ra n w (64 * i + 32 + k) c) + y * bo_s H (fun k => Q2 k * bo_ra n w (64 * i + 32 + k) c) := by
    rw [← bo_s_mul, ← bo_s_mul, ← bo_s_add]
    exact bo_s_cg _ fun k _ => by grind
  rw [s1, s2, Int.mul_add, Int.mul_add]
  omega
theorem bo_F_cg (h1 : 1 ≤ q_wd n i / 2) {c : Nat} {p q : bo_p} (e : bo_eqh (q_wd n i / 2) p q) : bo_F n w i c p = bo_F n w i c q := by
  have g := bo_lsp_cg (w := w) h1 e
  unfold bo_F
  exact congr (congrArg _ (bo_s_cg _ fun k hk => by rw [(g k hk).1])) (bo_s_cg _ fun k hk => by rw [(g k hk).2])
theorem bo_F_m (h : bo_ok n w) (hn : n = 4 ∨ n = 8 ∨ n = 16 ∨ n = 32) (h1 : 1 ≤ i) (h8 : i < 8) (h2 : 2 ≤ q_wd n i) (c : Nat) (z : Nat → Int) : ∀ m, m ≤ q_wd n i → bo_F n w i c (bo_pz fun j => if j < m then z j else 0) = (bn_S w : Int) ^ 2 * bo_s m (fun t => z t * bo_ra n w (32 * i + t) c)
  | 0, _ => by
    have e : (bo_pz fun j => if j < 0 then z j else 0) = bo_cm 0 0 (bo_pz z) (bo_pz z) := by
      unfold bo_pz bo_cm
      refine Prod.ext (funext fun k => ?_) (funext fun k => ?_) <;> dsimp only <;> rw [if_neg (by omega)] <;> omega
    rw [e, bo_F_cm, bo_s]
    omega
  | m + 1, hm => by
    have e : (bo_pz fun j => if j < m + 1 then z j else 0) = bo_cm 1 (z m) (bo_pz fun j => if j < m then z j else 0) (bo_ep m) := by
      unfold bo_pz bo_cm bo_ep
      refine Prod.ext (funext fun k => ?_) (funext fun k => ?_)
      · dsimp only
        by_cases g1 : 2 * k = m
        · rw [if_pos (by omega), if_neg (by omega), if_pos g1, g1]; omega
        · rw [if_neg g1]
          by_cases g2 : 2 * k < m
          · rw [if_pos (by omega), if_pos g2]; omega
          · rw [if_neg (by omega), if_neg g2]; omega
      · dsimp only
        by_cases g1 : 2 * k + 1 = m
        · rw [if_pos (by omega), if_neg (by omega), if_pos g1, g1]; omega
        · rw [if_neg g1]
          by_cases g2 : 2 * k + 1 < m
          · rw [if_pos (by omega), if_pos g2]; omega
          · rw [if_neg (by omega), if_neg g2]; omega
    rw [e, bo_F_cm, bo_F_m h hn h1 h8 h2 c z m (by omega), bo_s]
    have g := bo_lin_of h hn h1 h8 h2 (show m < q_wd n i by omega) c
    have g2 : bo_F n w i c (bo_ep m) = (bn_S w : Int) ^ 2 * bo_ra n w (32 * i + m) c := g.symm
    rw [g2]
    grind
theorem bo_F_z (h : bo_ok n w) (hn : n = 4 ∨ n = 8 ∨ n = 16 ∨ n = 32) (h1 : 1 ≤ i) (h8 : i < 8) (h2 : 2 ≤ q_wd n i) (c : Nat) (z : Nat → Int) : bo_F n w i c (bo_pz z) = (bn_S w : Int) ^ 2 * bo_s (q_wd n i) (fun t => z t * bo_ra n w (32 * i + t) c) := by
  have g := q_geo1 n hn i h8 h1 h2
  rw [← bo_F_m h hn h1 h8 h2 c z _ (Nat.le_refl _)]
  refine bo_F_cg (by omega) fun k hk => ?_
  unfold bo_pz
  dsimp only
  rw [if_pos (by omega), if_pos (by omega)]
  exact ⟨rfl, rfl⟩
end No
