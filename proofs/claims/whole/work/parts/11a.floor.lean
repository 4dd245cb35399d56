/-! THE REFERENCE'S floor IS A SHIFT, for the divisors it has -/
def q_fl (a b : Int64) : Int64 := if a < lN 0 ∧ ¬ a - a / b * b = lN 0 then a / b - lN 1 else a / b
theorem q_bm {n : Int} (h1 : -(2 ^ 63) ≤ n) (h2 : n < 2 ^ 63) : n.bmod (2 ^ 64) = n := Int.bmod_eq_of_le (by omega) (by omega)
theorem q_shI {x : Int64} {k : Nat} (hk : k < 63) : (q_sh x k).toInt = x.toInt / 2 ^ k := by
  have e : ∀ k, k < 63 → (((nI k).toInt64 &&& 63).toBitVec.smod 64).toNat = k := by decide +kernel
  have e2 : (q_sh x k).toInt = x.toInt >>> (((nI k).toInt64 &&& 63).toBitVec.smod 64).toNat := BitVec.toInt_sshiftRight ..
  rw [e k hk] at e2
  rw [e2, Int.shiftRight_eq_div_pow]
  rfl
theorem q_tde {A : Int} {B : Int} (h : A < 0) : A.tdiv B = -((-A) / B) := by
  rw [← Int.tdiv_eq_ediv_of_nonneg (by omega), Int.neg_tdiv, Int.neg_neg]
section F
variable {a : Int64}
theorem q_fl_of {B : Int} {b : Int64} {k : Nat} (hk : k < 63) (hb : b.toInt = B) (hB : B = 2 ^ k) (h1 : 1 ≤ k)
    (hr : ∀ A : Int, -(2 ^ 63) ≤ A → A < 2 ^ 63 → -(2 ^ 63) + 1 ≤ A.tdiv B ∧ A.tdiv B < 2 ^ 63 ∧ -(2 ^ 63) ≤ A.tdiv B * B ∧ A.tdiv B * B < 2 ^ 63 ∧ -(2 ^ 63) ≤ A - A.tdiv B * B ∧ A - A.tdiv B * B < 2 ^ 63 ∧ (if A < 0 ∧ ¬ A - A.tdiv B * B = 0 then A.tdiv B - 1 else A.tdiv B) = A / B) : q_fl a b = q_sh a k := by
  apply Int64.toInt_inj.mp
  rw [q_shI hk]
  obtain ⟨r1, r2, r3, r4, r5, r6, r7⟩ := hr a.toInt a.le_toInt a.toInt_lt
  have d1 : (a / b).toInt = a.toInt.tdiv B := by rw [Int64.toInt_div, hb, q_bm (by omega) r2]
  have d2 : (a / b * b).toInt = a.toInt.tdiv B * B := by rw [Int64.toInt_mul, d1, hb, q_bm r3 r4]
  have d3 : (a - a / b * b).toInt = a.toInt - a.toInt.tdiv B * B := by rw [Int64.toInt_sub, d2, q_bm r5 r6]
  have d4 : (a / b - lN 1).toInt = a.toInt.tdiv B - 1 := by rw [Int64.toInt_sub, d1, show (lN 1).toInt = 1 from rfl, q_bm (by omega) (by omega)]
  have c1 : a < lN 0 ↔ a.toInt < 0 := Int64.lt_iff_toInt_lt
  have c2 : a - a / b * b = lN 0 ↔ a.toInt - a.toInt.tdiv B * B = 0 := by rw [← Int64.toInt_inj, d3]; rfl
  rw [← hB, ← r7]
  unfold q_fl
  by_cases hc : a < lN 0 ∧ ¬ a - a / b * b = lN 0
  · rw [if_pos hc, if_pos ⟨c1.mp hc.1, fun z => hc.2 (c2.mpr z)⟩, d4]
  · rw [if_neg hc, if_neg (fun z => hc ⟨c1.mpr z.1, fun y => z.2 (c2.mp y)⟩), d1]
theorem q_fl2 : q_fl a (lN 2) = q_sh a 1 := q_fl_of (B := 2) (by omega) rfl rfl (by omega) (fun A h1 h2 => by
  by_cases h : A < 0
  · rw [q_tde h]
    refine ⟨by omega, by omega, by omega, by omega, by omega, by omega, ?_⟩
    split <;> omega
  · rw [Int.tdiv_eq_ediv_of_nonneg (by omega)]
    refine ⟨by omega, by omega, by omega, by omega, by omega, by omega, ?_⟩
    split <;> omega)
theorem q_fl4 : q_fl a (lN 4) = q_sh a 2 := q_fl_of (B := 4) (by omega) rfl rfl (by omega) (fun A h1 h2 => by
  by_cases h : A < 0
  · rw [q_tde h]
    refine ⟨by omega, by omega, by omega, by omega, by omega, by omega, ?_⟩
    split <;> omega
  · rw [Int.tdiv_eq_ediv_of_nonneg (by omega)]
    refine ⟨by omega, by omega, by omega, by omega, by omega, by omega, ?_⟩
    split <;> omega)
theorem q_fl12 : q_fl a (lN 4096) = q_sh a 12 := q_fl_of (B := 4096) (by omega) rfl rfl (by omega) (fun A h1 h2 => by
  by_cases h : A < 0
  · rw [q_tde h]
    refine ⟨by omega, by omega, by omega, by omega, by omega, by omega, ?_⟩
    split <;> omega
  · rw [Int.tdiv_eq_ediv_of_nonneg (by omega)]
    refine ⟨by omega, by omega, by omega, by omega, by omega, by omega, ?_⟩
    split <;> omega)
theorem q_floor {b : Int64} {w : pW} (hb : ¬ b = 0) : p_ev none 99 0 [.long a, p_U, .long b, p_U] [] w = some (.inl (some (.long (q_fl a b))), w, 0) := by
  unfold q_fl
  by_cases h1 : a < lN 0
  · have e1 : ¬ nI 0 ≤ lg_cmp a (lN 0) := by rw [q_cmpG]; exact Int64.not_le.mpr h1
    by_cases h2 : a - a / b * b = lN 0
    · have e2 : lg_cmp (a - a / b * b) (lN 0) = nI 0 := q_cmp0.mpr h2
      (conv => lhs; simp (disch := first | assumption | omega | (rw [nI_leI] <;> omega) | (rw [nI_ltI] <;> omega) | (rw [nI_eq] <;> omega) | (apply q_out <;> omega) | (apply q_nb; omega) | (apply q_n0 <;> omega)) only [M99, ↓if_pos, ↓if_neg, nI_add, q_sub, q_cl, p_bnd_s, p_bnd_v])
      rw [if_neg (fun z => z.2 h2)]
    · have e2 : ¬ lg_cmp (a - a / b * b) (lN 0) = nI 0 := fun z => h2 (q_cmp0.mp z)
      (conv => lhs; simp (disch := first | assumption | omega | (rw [nI_leI] <;> omega) | (rw [nI_ltI] <;> omega) | (rw [nI_eq] <;> omega) | (apply q_out <;> omega) | (apply q_nb; omega) | (apply q_n0 <;> omega)) only [M99, ↓if_pos, ↓if_neg, nI_add, q_sub, q_cl, p_bnd_s, p_bnd_v])
      rw [if_pos ⟨h1, h2⟩]
  · have e1 : nI 0 ≤ lg_cmp a (lN 0) := by rw [q_cmpG]; exact Int64.not_lt.mp h1
    (conv => lhs; simp (disch := first | assumption | omega | (rw [nI_leI] <;> omega) | (rw [nI_ltI] <;> omega) | (rw [nI_eq] <;> omega) | (apply q_out <;> omega) | (apply q_nb; omega) | (apply q_n0 <;> omega)) only [M99, ↓if_pos, ↓if_neg, nI_add, q_sub, q_cl, p_bnd_s, p_bnd_v])
    rw [if_neg (fun z => h1 z.1)]
end F
