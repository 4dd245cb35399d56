/-! WHAT THE CHECKS SAY OF A TREE'S VECTORS -/
def bo_dw (n w c : Nat) : Int := (bo_de n w).getD c 0
noncomputable def bo_et (n w c : Nat) : Int := (bo_eta n w).getD c 0
noncomputable def bo_ra (n w a c : Nat) : Int := (bo_at (bo_U n w) a).getD c 0
noncomputable def bo_rv (n w a c : Nat) : Int := (bo_at (bo_V n w) a).getD c 0
/-- leaves' numbers times their vectors -/
noncomputable def bo_Z (n w : Nat) (sp : Nat → Bool) (z : Nat → Int) (c : Nat) : Int := bo_w n sp fun a => z a * (bo_g w (a / 32) * bo_ra n w a c)
noncomputable def bo_nz (n w : Nat) (sp : Nat → Bool) (z : Nat → Int) : Int := bo_nq n (bo_dw n w) (bo_Z n w sp z)
def bo_ok (n w : Nat) : Prop := bo_len n w = true ∧ bo_bio n w = true ∧ bo_wei n w = true ∧ bo_sgl n w = true ∧ bo_par n w = true ∧ bo_lin n w = true
def bo_av (n a : Nat) : Prop := 1 ≤ a / 32 ∧ a / 32 < 16 ∧ a % 32 < q_wd n (a / 32)
theorem bo_all_in {n a : Nat} (h : bo_av n a) : a ∈ bo_all n := by
  obtain ⟨h1, h2, h3⟩ := h
  unfold bo_all
  rw [List.mem_flatMap]
  refine ⟨a / 32, List.mem_range.mpr h2, ?_⟩
  rw [if_pos h1, List.mem_map]
  exact ⟨a % 32, List.mem_range.mpr h3, by omega⟩
theorem bo_in_av {n a : Nat} {sp : Nat → Bool} (h : bo_in n sp a) : bo_av n a := by
  obtain ⟨h1, h2, h3⟩ := h
  have h4 : q_ex sp (a / 32) = true := by
    unfold bo_lf at h2
    rw [Bool.and_eq_true] at h2
    exact h2.1
  exact ⟨(q_ex_b h4).1, h1, h3⟩
theorem bo_lf_ur : ∀ b, b < 256 → q_Tb 32 (q_bs b) = true → ∀ i j, i < 16 → j < 16 → bo_lf (q_bs b) i = true → bo_lf (q_bs b) j = true → bo_ur i j = true := by
  have key : ((List.range 256).all fun b => !(q_Tb 32 (q_bs b)) || (List.range 16).all fun i => !(bo_lf (q_bs b) i) || (List.range 16).all fun j => !(bo_lf (q_bs b) j) || bo_ur i j) = true := by decide +kernel
  intro b hb hT i j hi hj li lj
  have h1 := List.all_eq_true.mp key b (List.mem_range.mpr hb)
  rw [hT] at h1
  have h2 := List.all_eq_true.mp h1 i (List.mem_range.mpr hi)
  rw [li] at h2
  have h3 := List.all_eq_true.mp h2 j (List.mem_range.mpr hj)
  rw [lj] at h3
  exact h3
theorem bo_Tb32 {n : Nat} {sp : Nat → Bool} (hT : q_T n sp) : q_T 32 sp := by
  refine ⟨Or.inr (Or.inr (Or.inr rfl)), hT.2.1, hT.2.2.1, hT.2.2.2.1, fun i h1 h8 hs => ?_⟩
  have h2 := hT.2.2.2.2 i h1 h8 hs
  have hn := hT.n32
  unfold q_wd at h2 ⊢
  exact Nat.le_trans h2 (Nat.div_le_div_right hn)
theorem bo_T_ur {n a b : Nat} {sp : Nat → Bool} (hT : q_T n sp) (ha : bo_in n sp a) (hb : bo_in n sp b) : bo_ur (a / 32) (b / 32) = true := by
  obtain ⟨k, h1, h2, h3⟩ := q_T_bits (bo_Tb32 hT)
  have := bo_lf_ur k h1 h3 (a / 32) (b / 32) ha.1 hb.1
  rw [← h2] at this
  exact this ha.2.1 hb.2.1
section Ok
variable {n w : Nat}
theorem bo_ok_len (h : bo_ok n w) {a : Nat} (ha : bo_av n a) : (bo_at (bo_U n w) a).length = n ∧ (bo_at (bo_V n w) a).length = n ∧ (bo_de n w).length = n := by
  have h1 := h.1
  unfold bo_len at h1
  rw [Bool.and_eq_true, decide_eq_true_eq] at h1
  have h2 := List.all_eq_true.mp h1.1 a (bo_all_in ha)
  rw [Bool.and_eq_true, decide_eq_true_eq, decide_eq_true_eq] at h2
  exact ⟨h2.1, h2.2, h1.2⟩
theorem bo_ok_eta (h : bo_ok n w) {a : Nat} (ha : bo_av n a) : (bo_eta n w).length = n := by
  unfold bo_eta
  rw [bn_mp_eq, List.length_map]
  exact (bo_ok_len h ha).2.2
theorem bo_ok_al (h : bo_ok n w) {a b : Nat} (ha : bo_av n a) (hb : bo_av n b) : bo_al n w a b = bo_ip n (bo_dw n w) (bo_ra n w a) (bo_ra n w b) :=
  bo_dl_3 (bo_ok_len h ha).2.2 (bo_ok_len h ha).1 (bo_ok_len h hb).1
theorem bo_ok_be (h : bo_ok n w) {a b : Nat} (ha : bo_av n a) (hb : bo_av n b) : bo_be n w a b = bo_ip n (bo_et n w) (bo_rv n w a) (bo_rv n w b) :=
  bo_dl_3 (bo_ok_eta h ha) (bo_ok_len h ha).2.1 (bo_ok_len h hb).2.1
theorem bo_ok_bio (h : bo_ok n w) {a b : Nat} (ha : bo_av n a) (hb : bo_av n b) (hu : bo_ur (a / 32) (b / 32) = true) : bo_s n (fun c => bo_rv n w a c * bo_ra n w b c) = if a = b then bo_K n w (a / 32) else 0 := by
  have h1 := h.2.1
  unfold bo_bio at h1
  have h2 := List.all_eq_true.mp (List.all_eq_true.mp h1 a (bo_all_in ha)) b (bo_all_in hb)
  rw [hu] at h2
  have h3 := of_decide_eq_true h2
  rw [bo_dl_2 (bo_ok_len h ha).2.1 (bo_ok_len h hb).1] at h3
  exact h3
theorem bo_ok_wei (h : bo_ok n w) {c : Nat} (hc : c < n) : 0 < bo_dw n w c ∧ 2 ^ 40 ≤ bo_dw n w c * bo_et n w c ∧ 0 ≤ bo_et n w c := by
  have h1 := h.2.2.1
  unfold bo_wei at h1
  have h2 := List.all_eq_true.mp h1 c (List.mem_range.mpr hc)
  rw [Bool.and_eq_true, Bool.and_eq_true, decide_eq_true_eq, decide_eq_true_eq, decide_eq_true_eq] at h2
  exact ⟨h2.1.1, h2.1.2, h2.2⟩
theorem bo_ok_dw (h : bo_ok n w) : ∀ c, c < n → 0 ≤ bo_dw n w c := fun _ hc => Int.le_of_lt (bo_ok_wei h hc).1
end Ok
theorem bo_Z_ln {n w : Nat} {sp : Nat → Bool} {z z' : Nat → Int} {x y : Int} (c : Nat) : bo_Z n w sp (fun a => x * z a + y * z' a) c = x * bo_Z n w sp z c + y * bo_Z n w sp z' c := by
  unfold bo_Z
  rw [← bo_w_mul, ← bo_w_mul, ← bo_w_add]
  exact congrArg (bo_w n sp) (by funext a; grind)
theorem bo_Z_cg {n w : Nat} {sp : Nat → Bool} {z z' : Nat → Int} (hn : n ≤ 32) (h : ∀ a, bo_in n sp a → z a = z' a) (c : Nat) : bo_Z n w sp z c = bo_Z n w sp z' c := bo_w_cg hn fun a ha => by rw [h a ha]
theorem bo_nz_cg {n w : Nat} {sp : Nat → Bool} {z z' : Nat → Int} (hn : n ≤ 32) (h : ∀ a, bo_in n sp a → z a = z' a) : bo_nz n w sp z = bo_nz n w sp z' := bo_nq_cg fun c _ => bo_Z_cg hn h c
section Cs
variable {n w : Nat} {sp : Nat → Bool} {z : Nat → Int}
theorem bo_Z_v (h : bo_ok n w) (hT : q_T n sp) {a : Nat} (ha : bo_in n sp a) : bo_s n (fun c => bo_rv n w a c * bo_Z n w sp z c) = z a * (bo_g w (a / 32) * bo_K n w (a / 32)) := by
  have e : ∀ b, bo_in n sp b → bo_s n (fun c => bo_rv n w a c * (z b * (bo_g w (b / 32) * bo_ra n w b c))) = z b * bo_g w (b / 32) * (if a = b then bo_K n w (a / 32) else 0) := by
    intro b hb
    rw [← bo_ok_bio h (bo_in_av ha) (bo_in_av hb) (bo_T_ur hT ha hb), ← bo_s_mul]
    exact bo_s_cg n fun c _ => by grind
  unfold bo_Z
  rw [bo_w_s, bo_w_1 hT.n32 ha]
  · rw [e a ha, if_pos rfl]; grind
  · intro b hb hne
    rw [e b hb, if_neg (fun z => hne z.symm), Int.mul_zero]
/-- two numbers of a tree against the whole -/
theorem bo_cs2 (h : bo_ok n w) (hT : q_T n sp) {a b : Nat} (ha : bo_in n sp a) (hb : bo_in n sp b) (s t : Int) : 2 ^ 40 * ((s * (z a * (bo_g w (a / 32) * bo_K n w (a / 32))) + t * (z b * (bo_g w (b / 32) * bo_K n w (b / 32)))) * (s * (z a * (bo_g w (a / 32) * bo_K n w (a / 32))) + t * (z b * (bo_g w (b / 32) * bo_K n w (b / 32))))) ≤ (s * s * bo_be n w a a + 2 * s * t * bo_be n w a b + t * t * bo_be n w b b) * bo_nz n w sp z := by
  have av := bo_in_av ha
  have bv := bo_in_av hb
  rw [← bo_Z_v h hT ha, ← bo_Z_v h hT hb, bo_ok_be h av av, bo_ok_be h av bv, bo_ok_be h bv bv]
  have e1 := bo_nq_add (n := n) (de := bo_et n w) (V := bo_rv n w a) (W := bo_rv n w b) (a := s) (b := t)
  have e2 : s * bo_s n (fun c => bo_rv n w a c * bo_Z n w sp z c) + t * bo_s n (fun c => bo_rv n w b c * bo_Z n w sp z c) = bo_s n (fun c => (s * bo_rv n w a c + t * bo_rv n w b c) * bo_Z n w sp z c) := by
    rw [← bo_s_mul, ← bo_s_mul, ← bo_s_add]
    exact bo_s_cg n fun c _ => by grind
  unfold bo_nq at e1
  rw [e2, ← e1]
  refine bo_cs (K := 2 ^ 40) (by decide) n fun c hc => ?_
  obtain ⟨h1, h2, h3⟩ := bo_ok_wei h hc
  dsimp only
  generalize s * bo_rv n w a c + t * bo_rv n w b c = u
  generalize bo_Z n w sp z c = v
  refine ⟨Int.mul_nonneg h3 (bo_sq0 u), Int.mul_nonneg (Int.le_of_lt h1) (bo_sq0 v), ?_⟩
  have g := Int.mul_le_mul_of_nonneg_right h2 (bo_sq0 (u * v))
  have e3 : bo_et n w c * (u * u) * (bo_dw n w c * (v * v)) = bo_dw n w c * bo_et n w c * (u * v * (u * v)) := by grind
  rw [e3]; exact g
theorem bo_cs1 (h : bo_ok n w) (hT : q_T n sp) {a : Nat} (ha : bo_in n sp a) : 2 ^ 40 * ((z a * (bo_g w (a / 32) * bo_K n w (a / 32))) * (z a * (bo_g w (a / 32) * bo_K n w (a / 32)))) ≤ bo_be n w a a * bo_nz n w sp z := by
  have := bo_cs2 (z := z) h hT ha ha 1 0
  simpa using this
end Cs
def bo_mk (S : Nat → Bool) (z : Nat → Int) (a : Nat) : Int := if S a = true then 0 else z a
def bo_on (S : Nat → Bool) (z : Nat → Int) (a : Nat) : Int := if S a = true then z a else 0
section Pj
variable {n w : Nat} {sp S : Nat → Bool} {z : Nat → Int}
theorem bo_mk_on : bo_nz n w sp z = bo_nq n (bo_dw n w) (fun c => bo_Z n w sp (bo_mk S z) c + bo_Z n w sp (bo_on S z) c) := by
  refine bo_nq_cg fun c _ => ?_
  have := bo_Z_ln (n := n) (w := w) (sp := sp) (z := bo_mk S z) (z' := bo_on S z) (x := 1) (y := 1) c
  rw [Int.one_mul, Int.one_mul] at this
  rw [← this]
  refine congrFun (congrArg _ ?_) c
  funext a
  unfold bo_mk bo_on
  split <;> omega
/-- what is left out costs little, if what is left out alone is small against every mixture -/
theorem bo_pj (h : bo_ok n w) {g k : Int} (hk : 0 < k) (hg : k < g) (H : ∀ z' : Nat → Int, (∀ a, z' a = (if S a = true then g else g - k) * z a) → k * (g * g * bo_nz n w sp (bo_on S z)) ≤ g * bo_nz n w sp z') : k * bo_nz n w sp (bo_mk S z) ≤ g * bo_nz n w sp z := by
  rw [bo_mk_on (S := S) (z := z)]
  refine bo_prj (bo_ok_dw h) hk hg ?_
  have e : bo_nq n (bo_dw n w) (fun c => (g - k) * bo_Z n w sp (bo_mk S z) c + g * bo_Z n w sp (bo_on S z) c) = bo_nz n w sp (fun a => (g - k) * bo_mk S z a + g * bo_on S z a) := bo_nq_cg fun c _ => (bo_Z_ln c).symm
  rw [e]
  refine H _ fun a => ?_
  unfold bo_mk bo_on
  by_cases hs : S a = true
  · rw [if_pos hs, if_pos hs, if_pos hs]; omega
  · rw [if_neg hs, if_neg hs, if_neg hs]; omega
end Pj
