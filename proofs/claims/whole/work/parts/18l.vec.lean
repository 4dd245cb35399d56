/-! FROM THE CHECKS TO VECTORS -/
theorem bo_dl_s : ∀ (u v : List Int), u.length = v.length → bo_dl u v = bo_s u.length (fun c => u.getD c 0 * v.getD c 0)
  | [], [], _ => rfl
  | [], _ :: _, h => by simp at h
  | _ :: _, [], h => by simp at h
  | a :: u, b :: v, h => by
    simp only [List.length_cons] at h
    rw [bo_dl, bo_dl_s u v (by omega), List.length_cons, bo_s_sh]
    rfl
theorem bn_ml_d : ∀ (u v : List Int) (c : Nat), (bn_ml u v).getD c 0 = u.getD c 0 * v.getD c 0
  | [], v, c => by
    show ([] : List Int).getD c 0 = _
    simp
  | a :: u, [], c => by
    show ([] : List Int).getD c 0 = _
    simp
  | a :: u, b :: v, 0 => by
    show (bn_cs (Int.mul a b) (bn_ml u v)).getD 0 0 = _
    rw [bn_cs_eq]; rfl
  | a :: u, b :: v, c + 1 => by
    show (bn_cs (Int.mul a b) (bn_ml u v)).getD (c + 1) 0 = _
    rw [bn_cs_eq]; exact bn_ml_d u v c
theorem bn_ml_len : ∀ (u v : List Int), u.length = v.length → (bn_ml u v).length = u.length
  | [], _, _ => rfl
  | _ :: _, [], h => by simp at h
  | a :: u, b :: v, h => by
    show (bn_cs (Int.mul a b) (bn_ml u v)).length = _
    simp only [List.length_cons] at h
    rw [bn_cs_eq, List.length_cons, List.length_cons, bn_ml_len u v (by omega)]
theorem bo_dl_3 {n : Nat} {d u v : List Int} (hd : d.length = n) (hu : u.length = n) (hv : v.length = n) : bn_dl (bn_ml d u) v = bo_s n (fun c => d.getD c 0 * (u.getD c 0 * v.getD c 0)) := by
  have h1 := bn_ml_len d u (by omega)
  rw [bn_dl_eq, bo_dl_s _ _ (by omega), h1, hd]
  exact bo_s_cg n fun c _ => by rw [bn_ml_d]; grind
theorem bo_dl_2 {n : Nat} {u v : List Int} (hu : u.length = n) (hv : v.length = n) : bn_dl u v = bo_s n (fun c => u.getD c 0 * v.getD c 0) := by
  rw [bn_dl_eq, bo_dl_s _ _ (by omega), hu]
theorem bn_mv_eq (f : List Int → Int) : ∀ us : List (List Int), bn_mv f us = us.map f
  | [] => rfl
  | u :: us => by
    show bn_cs (f u) (bn_mv f us) = _
    rw [bn_cs_eq, bn_mv_eq f us]; rfl
theorem bn_mp_eq (f : Int → Int) : ∀ us : List Int, bn_mp f us = us.map f
  | [] => rfl
  | u :: us => by
    show bn_cs (f u) (bn_mp f us) = _
    rw [bn_cs_eq, bn_mp_eq f us]; rfl
theorem bn_tri_c {de u : List Int} {us : List (List Int)} : bn_tri de (u :: us) = (bn_dl (bn_ml de u) u :: us.map (bn_dl (bn_ml de u))) :: bn_tri de us := by
  show bn_cs (bn_dl (bn_ml de u) u) (bn_mv (bn_dl (bn_ml de u)) us) :: bn_tri de us = _
  rw [bn_cs_eq, bn_mv_eq]
theorem bn_tri_len {de : List Int} : ∀ us : List (List Int), (bn_tri de us).length = us.length
  | [] => rfl
  | u :: us => by rw [bn_tri_c, List.length_cons, List.length_cons, bn_tri_len us]
theorem bn_tri_t {de : List Int} : ∀ us : List (List Int), bo_tri (bn_tri de us)
  | [] => trivial
  | u :: us => by
    rw [bn_tri_c]
    exact ⟨by rw [List.length_cons, List.length_map, bn_tri_len], bn_tri_t us⟩
/-- numbers times vectors -/
def bo_Lc : List Int → List (List Int) → Nat → Int
  | x :: xs, u :: us => fun c => x * u.getD c 0 + bo_Lc xs us c
  | _, _ => fun _ => 0
theorem bo_dl_Lc {n : Nat} {de u : List Int} (hd : de.length = n) (hu : u.length = n) : ∀ (us : List (List Int)) (xs : List Int), (∀ v ∈ us, v.length = n) → xs.length = us.length → bo_dl (us.map (bn_dl (bn_ml de u))) xs = bo_ip n (fun c => de.getD c 0) (fun c => u.getD c 0) (bo_Lc xs us)
  | [], [], _, _ => by
    rw [bo_Lc, bo_ip]
    · simp only [Int.mul_zero]; exact (bo_s_z n).symm
    · intro x xs u us h; cases h
  | [], _ :: _, _, h => by simp at h
  | _ :: _, [], _, h => by simp at h
  | v :: us, x :: xs, hv, h => by
    simp only [List.length_cons] at h
    rw [List.map_cons, bo_dl, bo_dl_Lc hd hu us xs (fun v hm => hv v (List.mem_cons_of_mem _ hm)) (by omega), bo_dl_3 hd hu (hv v List.mem_cons_self), bo_Lc, bo_ip_add, bo_ip_mul, show (bo_s n fun c => de.getD c 0 * (u.getD c 0 * v.getD c 0)) = bo_ip n (fun c => de.getD c 0) (fun c => u.getD c 0) (fun c => v.getD c 0) from rfl, Int.mul_comm]
theorem bo_qf_tri {n : Nat} {de : List Int} (hd : de.length = n) : ∀ (us : List (List Int)) (xs : List Int), (∀ v ∈ us, v.length = n) → xs.length = us.length → bo_qf (bn_tri de us) xs = bo_nq n (fun c => de.getD c 0) (bo_Lc xs us)
  | [], [], _, _ => by
    rw [bo_Lc, bo_nq, bo_ip]
    · simp only [Int.mul_zero]; exact (bo_s_z n).symm
    · intro x xs u us h; cases h
  | [], _ :: _, _, h => by simp at h
  | _ :: _, [], _, h => by simp at h
  | u :: us, x :: xs, hv, h => by
    simp only [List.length_cons] at h
    have hu := hv u List.mem_cons_self
    have hv2 : ∀ v ∈ us, v.length = n := fun v hm => hv v (List.mem_cons_of_mem _ hm)
    rw [bn_tri_c, bo_qf, bo_qf_tri hd us xs hv2 (by omega), bo_dl_Lc hd hu us xs hv2 (by omega), bo_dl_3 hd hu hu]
    have e := bo_nq_add (n := n) (de := fun c => de.getD c 0) (V := fun c => u.getD c 0) (W := bo_Lc xs us) (a := x) (b := 1)
    have e2 : bo_nq n (fun c => de.getD c 0) (bo_Lc (x :: xs) (u :: us)) = bo_nq n (fun c => de.getD c 0) (fun c => x * u.getD c 0 + 1 * bo_Lc xs us c) := bo_nq_cg fun c _ => by rw [bo_Lc, Int.one_mul]
    have e3 : bo_s n (fun c => de.getD c 0 * (u.getD c 0 * u.getD c 0)) = bo_nq n (fun c => de.getD c 0) (fun c => u.getD c 0) := rfl
    rw [e2, e, e3]
    grind
/-- the diagonal alone -/
def bo_dg : List (List Int) → List Int → Int
  | (a :: _) :: rs, x :: xs => a * (x * x) + bo_dg rs xs
  | _, _ => 0
theorem bn_md_c {c d a : Int} {b : List Int} {rs : List (List Int)} : bn_md c d ((a :: b) :: rs) = (c * a :: b.map (Int.mul d)) :: bn_md c d rs := by
  show bn_cs (Int.mul c a) (bn_mp (Int.mul d) b) :: bn_md c d rs = _
  rw [bn_cs_eq, bn_mp_eq]; rfl
theorem bn_md_t {c d : Int} : ∀ M : List (List Int), bo_tri M → bo_tri (bn_md c d M) ∧ (bn_md c d M).length = M.length
  | [], _ => ⟨trivial, rfl⟩
  | [] :: rs, h => by simp [bo_tri] at h
  | (a :: b) :: rs, h => by
    obtain ⟨h1, h2⟩ := h
    have ih := bn_md_t (c := c) (d := d) rs h2
    rw [bn_md_c]
    refine ⟨⟨?_, ih.1⟩, by rw [List.length_cons, List.length_cons, ih.2]⟩
    rw [List.length_cons, List.length_map, ih.2]
    simpa using h1
theorem bo_dl_mul {d : Int} : ∀ u v : List Int, bo_dl (u.map (Int.mul d)) v = d * bo_dl u v
  | [], _ => by simp [bo_dl]
  | _ :: _, [] => by simp [bo_dl]
  | a :: u, b :: v => by
    rw [List.map_cons, bo_dl, bo_dl, bo_dl_mul u v]
    show d * a * b + _ = _
    grind
theorem bo_qf_md {c d : Int} : ∀ (M : List (List Int)) (xs : List Int), bo_qf (bn_md c d M) xs = d * bo_qf M xs + (c - d) * bo_dg M xs
  | [], xs => by
    show bo_qf [] xs = _
    simp [bo_qf, bo_dg]
  | [] :: rs, xs => by
    show bo_qf ([] :: bn_md c d rs) xs = _
    simp [bo_qf, bo_dg]
  | (a :: b) :: rs, [] => by
    rw [bn_md_c]
    simp [bo_qf, bo_dg]
  | (a :: b) :: rs, x :: xs => by
    rw [bn_md_c, bo_qf, bo_qf, bo_dg, bo_qf_md rs xs, bo_dl_mul]
    grind
/-- a form bounds its diagonal, both ways -/
theorem bo_kap2 {n f : Nat} {de : List Int} {us : List (List Int)} {c d : Int} (hd : de.length = n) (hv : ∀ v ∈ us, v.length = n) (h : bn_psd f (bn_md c d (bn_tri de us)) = true) {xs : List Int} (hx : xs.length = us.length) : 0 ≤ d * bo_nq n (fun c => de.getD c 0) (bo_Lc xs us) + (c - d) * bo_dg (bn_tri de us) xs := by
  have ht := bn_md_t (c := c) (d := d) (bn_tri de us) (bn_tri_t us)
  have := bo_psd_ok f _ ht.1 (bn_psd_eq _ _ h) xs (by rw [ht.2, bn_tri_len, hx])
  rw [bo_qf_md, bo_qf_tri hd us xs hv hx] at this
  exact this
theorem bo_dg_tri {de : List Int} (f : Nat → Int) (g : Nat → List Int) : ∀ ls : List Nat, bo_dg (bn_tri de (ls.map g)) (ls.map f) = (ls.map fun a => bn_dl (bn_ml de (g a)) (g a) * (f a * f a)).sum
  | [] => rfl
  | a :: ls => by
    rw [List.map_cons, List.map_cons, bn_tri_c, bo_dg, bo_dg_tri f g ls, List.map_cons, List.sum_cons]
theorem bo_Lc_map (f : Nat → Int) (g : Nat → List Int) (c : Nat) : ∀ ls : List Nat, bo_Lc (ls.map f) (ls.map g) c = (ls.map fun a => f a * (g a).getD c 0).sum
  | [] => by
    rw [List.map_nil, List.map_nil, bo_Lc]
    · rfl
    · intro x xs u us h; cases h
  | a :: ls => by
    rw [List.map_cons, List.map_cons, bo_Lc]
    show f a * (g a).getD c 0 + bo_Lc (ls.map f) (ls.map g) c = _
    rw [bo_Lc_map f g c ls, List.map_cons, List.sum_cons]
/-! SUMS OVER THE LEAVES OF A TREE -/
def bo_lf (sp : Nat → Bool) (i : Nat) : Bool := q_ex sp i && !(sp i)
def bo_w (n : Nat) (sp : Nat → Bool) (f : Nat → Int) : Int := bo_s 16 fun i => if bo_lf sp i = true then bo_s (q_wd n i) (fun k => f (32 * i + k)) else 0
theorem bo_sum_rg (f : Nat → Int) : ∀ n, ((List.range n).map f).sum = bo_s n f
  | 0 => rfl
  | n + 1 => by rw [List.range_succ, List.map_append, List.sum_append, bo_sum_rg f n, bo_s]; simp
theorem bo_sum_fm (g : Nat → List Nat) (f : Nat → Int) : ∀ n, (((List.range n).flatMap g).map f).sum = bo_s n fun i => ((g i).map f).sum
  | 0 => rfl
  | n + 1 => by rw [List.range_succ, List.flatMap_append, List.map_append, List.sum_append, bo_sum_fm g f n, bo_s]; simp
theorem bo_w_ls (n : Nat) (sp : Nat → Bool) (f : Nat → Int) : ((bo_ls n sp).map f).sum = bo_w n sp f := by
  unfold bo_ls bo_w
  rw [bo_sum_fm]
  refine bo_s_cg 16 fun i _ => ?_
  by_cases h : bo_lf sp i = true
  · have h2 : (q_ex sp i && !(sp i)) = true := h
    rw [if_pos h, if_pos h2, List.map_map]
    exact bo_sum_rg _ _
  · have h2 : ¬ (q_ex sp i && !(sp i)) = true := h
    rw [if_neg h, if_neg h2]; rfl
/-- a number of a leaf -/
def bo_in (n : Nat) (sp : Nat → Bool) (a : Nat) : Prop := a / 32 < 16 ∧ bo_lf sp (a / 32) = true ∧ a % 32 < q_wd n (a / 32)
section Wl
variable {n : Nat} {sp : Nat → Bool}
theorem bo_w_cg {f g : Nat → Int} (hn : n ≤ 32) (h : ∀ a, bo_in n sp a → f a = g a) : bo_w n sp f = bo_w n sp g := by
  refine bo_s_cg 16 fun i hi => ?_
  by_cases hl : bo_lf sp i = true
  · rw [if_pos hl, if_pos hl]
    refine bo_s_cg _ fun k hk => h _ ?_
    have hw := q_wdle n i
    rw [bo_in, show (32 * i + k) / 32 = i by omega, show (32 * i + k) % 32 = k by omega]
    exact ⟨hi, hl, hk⟩
  · rw [if_neg hl, if_neg hl]
theorem bo_w_add {f g : Nat → Int} : bo_w n sp (fun a => f a + g a) = bo_w n sp f + bo_w n sp g := by
  unfold bo_w
  rw [← bo_s_add]
  refine bo_s_cg 16 fun i _ => ?_
  by_cases hl : bo_lf sp i = true
  · rw [if_pos hl, if_pos hl, if_pos hl, bo_s_add]
  · rw [if_neg hl, if_neg hl, if_neg hl]; rfl
theorem bo_w_mul {f : Nat → Int} {x : Int} : bo_w n sp (fun a => x * f a) = x * bo_w n sp f := by
  unfold bo_w
  rw [← bo_s_mul]
  refine bo_s_cg 16 fun i _ => ?_
  by_cases hl : bo_lf sp i = true
  · rw [if_pos hl, if_pos hl, bo_s_mul]
  · rw [if_neg hl, if_neg hl, Int.mul_zero]
theorem bo_s_1 {f : Nat → Int} {j : Nat} : ∀ n, j < n → (∀ c, c < n → c ≠ j → f c = 0) → bo_s n f = f j
  | 0, h, _ => by omega
  | n + 1, h, hz => by
    rw [bo_s]
    by_cases e : j = n
    · subst e
      have : bo_s j f = bo_s j (fun _ => 0) := bo_s_cg j fun c hc => hz c (by omega) (by omega)
      rw [this, bo_s_z, Int.zero_add]
    · rw [bo_s_1 n (by omega) (fun c hc => hz c (by omega)), hz n (by omega) (by omega), Int.add_zero]
theorem bo_w_1 {f : Nat → Int} {a : Nat} (hn : n ≤ 32) (ha : bo_in n sp a) (hz : ∀ b, bo_in n sp b → b ≠ a → f b = 0) : bo_w n sp f = f a := by
  obtain ⟨h1, h2, h3⟩ := ha
  have hin : ∀ i k, i < 16 → bo_lf sp i = true → k < q_wd n i → bo_in n sp (32 * i + k) := by
    intro i k hi hl hk
    have hw := q_wdle n i
    rw [bo_in, show (32 * i + k) / 32 = i by omega, show (32 * i + k) % 32 = k by omega]
    exact ⟨hi, hl, hk⟩
  unfold bo_w
  rw [bo_s_1 (j := a / 32) 16 h1]
  · rw [if_pos h2, bo_s_1 (j := a % 32) _ h3]
    · exact congrArg f (by omega)
    · intro k hk hne
      exact hz _ (hin _ _ h1 h2 hk) (by omega)
  · intro i hi hne
    by_cases hl : bo_lf sp i = true
    · rw [if_pos hl]
      have : bo_s (q_wd n i) (fun k => f (32 * i + k)) = bo_s (q_wd n i) (fun _ => 0) := bo_s_cg _ fun k hk => hz _ (hin _ _ hi hl hk) (by have hw := q_wdle n i; omega)
      rw [this, bo_s_z]
    · rw [if_neg hl]
theorem bo_w_s {N : Nat} {v : Nat → Int} {F : Nat → Nat → Int} : bo_s N (fun c => v c * bo_w n sp (fun a => F a c)) = bo_w n sp (fun a => bo_s N (fun c => v c * F a c)) := by
  induction N with
  | zero =>
    have : bo_w n sp (fun a => bo_s 0 (fun c => v c * F a c)) = bo_w n sp (fun a => 0 * 0) := rfl
    rw [this, bo_w_mul, Int.zero_mul]; rfl
  | succ N ih =>
    rw [bo_s, ih, ← bo_w_mul, ← bo_w_add]
    rfl
end Wl
