/-! FORMS THAT ARE NEVER BELOW 0 -/
theorem bo_sq0 (a : Int) : 0 ≤ a * a := by
  rcases Int.le_total 0 a with h | h
  · exact Int.mul_nonneg h h
  · exact Int.mul_nonneg_of_nonpos_of_nonpos h h
theorem bo_am {x y r a : Int} (h0 : 0 ≤ r) (h1 : r ≤ a) : -(a * (x * x + y * y)) ≤ 2 * (x * y) * r := by
  have e1 := bo_sq0 (x + y)
  have e2 := bo_sq0 (x - y)
  have e3 : (x + y) * (x + y) = (x * x + y * y) + 2 * (x * y) := by grind
  have e4 : (x - y) * (x - y) = (x * x + y * y) - 2 * (x * y) := by grind
  rw [e3] at e1
  rw [e4] at e2
  generalize 2 * (x * y) = t at *
  generalize x * x + y * y = s at *
  have hs : 0 ≤ s := by omega
  rcases Int.le_total 0 t with h | h
  · have g1 := Int.mul_nonneg h h0
    have g2 := Int.mul_nonneg (Int.le_trans h0 h1) hs
    omega
  · have g1 := Int.mul_le_mul_of_nonneg_right (show -t ≤ s by omega) h0
    have g2 := Int.mul_le_mul_of_nonneg_right h1 hs
    rw [Int.neg_mul] at g1
    rw [Int.mul_comm s r] at g1
    omega
def bo_dl : List Int → List Int → Int
  | a :: u, b :: v => a * b + bo_dl u v
  | _, _ => 0
def bo_sq : List Int → Int
  | a :: u => a * a + bo_sq u
  | [] => 0
theorem bo_sq_0 : ∀ u, 0 ≤ bo_sq u
  | [] => Int.le_refl _
  | a :: u => by
    have h1 := bo_sq_0 u
    have h2 := bo_sq0 a
    rw [bo_sq]; omega
/-- the form of a triangle of rows -/
def bo_qf : List (List Int) → List Int → Int
  | (a :: b) :: rs, x :: xs => a * (x * x) + 2 * (x * bo_dl b xs) + bo_qf rs xs
  | _, _ => 0
def bo_tri : List (List Int) → Prop
  | [] => True
  | r :: rs => r.length = rs.length + 1 ∧ bo_tri rs
def bo_row (a b0 : Int) : List Int → List Int → List Int
  | c :: cs, b :: bs => (c - b0 * b / a) :: bo_row a b0 cs bs
  | _, _ => []
def bo_upd (a L : Int) : List (List Int) → List Int → List (List Int)
  | (c :: cs) :: rs, b :: bs => ((c - b * b / a - L) :: bo_row a b cs bs) :: bo_upd a L rs bs
  | _, _ => []
/-- a test: elimination, rounded to the safe side -/
def bo_psd : Nat → List (List Int) → Bool
  | _, [] => true
  | f + 1, (a :: b) :: rs => decide (0 < a) && bo_psd f (bo_upd a b.length rs b)
  | _, _ => false
theorem bo_row_len {a b0 : Int} : ∀ cs bs : List Int, cs.length = bs.length → (bo_row a b0 cs bs).length = cs.length
  | [], _, _ => by simp [bo_row]
  | c :: cs, [], h => by simp at h
  | c :: cs, b :: bs, h => by
    simp only [List.length_cons] at h
    simp only [bo_row, List.length_cons, bo_row_len cs bs (by omega)]
theorem bo_upd_tri {a L : Int} : ∀ (rs : List (List Int)) (b : List Int), bo_tri rs → b.length = rs.length → bo_tri (bo_upd a L rs b) ∧ (bo_upd a L rs b).length = rs.length
  | [], b, _, _ => by
    rw [bo_upd.eq_2]
    · exact ⟨trivial, rfl⟩
    · intro c cs rs b bs h; simp at h
  | [] :: rs, b, h, _ => by simp [bo_tri] at h
  | (c :: cs) :: rs, [], _, h => by simp at h
  | (c :: cs) :: rs, b :: bs, h, h2 => by
    simp only [List.length_cons] at h2
    obtain ⟨h1, h3⟩ := h
    simp only [List.length_cons] at h1
    have ih := bo_upd_tri (a := a) (L := L) rs bs h3 (by omega)
    rw [bo_upd]
    refine ⟨⟨?_, ih.1⟩, ?_⟩
    · simp only [List.length_cons, bo_row_len cs bs (by omega), ih.2]; omega
    · simp only [List.length_cons, ih.2]
theorem bo_row_le {a b0 x0 : Int} (ha : 0 < a) : ∀ cs bs xs : List Int, cs.length = bs.length → xs.length = bs.length → -(a * (bs.length * (x0 * x0) + bo_sq xs)) ≤ 2 * x0 * (a * bo_dl cs xs - b0 * bo_dl bs xs - a * bo_dl (bo_row a b0 cs bs) xs)
  | [], [], [], _, _ => by simp [bo_dl, bo_sq, bo_row]
  | [], [], _ :: _, _, h => by simp at h
  | [], _ :: _, _, h, _ => by simp at h
  | _ :: _, [], _, h, _ => by simp at h
  | _ :: _, _ :: _, [], _, h => by simp at h
  | c :: cs, b :: bs, x :: xs, h1, h2 => by
    simp only [List.length_cons] at h1 h2
    have ih := bo_row_le (b0 := b0) (x0 := x0) ha cs bs xs (by omega) (by omega)
    simp only [bo_row, bo_dl, bo_sq, List.length_cons]
    have hd := Int.mul_ediv_add_emod (b0 * b) a
    have hm0 := Int.emod_nonneg (b0 * b) (show a ≠ 0 by omega)
    have hm1 := Int.emod_lt_of_pos (b0 * b) ha
    generalize b0 * b / a = qq at *
    generalize b0 * b % a = r at *
    have key := bo_am (x := x0) (y := -x) hm0 (show r ≤ a by omega)
    have e : 2 * x0 * (a * (c * x + bo_dl cs xs) - b0 * (b * x + bo_dl bs xs) - a * ((c - qq) * x + bo_dl (bo_row a b0 cs bs) xs)) = 2 * x0 * (a * bo_dl cs xs - b0 * bo_dl bs xs - a * bo_dl (bo_row a b0 cs bs) xs) + 2 * (x0 * x) * (a * qq - b0 * b) := by grind
    have e2 : 2 * (x0 * x) * (a * qq - b0 * b) = 2 * (x0 * -x) * r := by rw [show a * qq - b0 * b = -r by omega]; grind
    rw [e, e2]
    have e3 : a * (((bs.length + 1 : Nat) : Int) * (x0 * x0) + (x * x + bo_sq xs)) = a * (bs.length * (x0 * x0) + bo_sq xs) + a * (x0 * x0 + -x * -x) := by
      push_cast; grind
    rw [e3]
    omega
theorem bo_upd_le {a L : Int} (ha : 0 < a) : ∀ (rs : List (List Int)) (b xs : List Int), bo_tri rs → b.length = rs.length → xs.length = rs.length → a * ((L - rs.length) * bo_sq xs) ≤ a * bo_qf rs xs - bo_dl b xs * bo_dl b xs - a * bo_qf (bo_upd a L rs b) xs
  | [], [], [], _, _, _ => by simp [bo_upd, bo_qf, bo_dl, bo_sq]
  | [], [], _ :: _, _, _, h => by simp at h
  | [], _ :: _, _, _, h, _ => by simp at h
  | [] :: rs, b, xs, h, _, _ => by simp [bo_tri] at h
  | (c :: cs) :: rs, [], _, _, h, _ => by simp at h
  | (c :: cs) :: rs, _ :: _, [], _, _, h => by simp at h
  | (c :: cs) :: rs, b :: bs, x :: xs, h, h1, h2 => by
    simp only [List.length_cons] at h1 h2
    obtain ⟨h3, h4⟩ := h
    simp only [List.length_cons] at h3
    have ih := bo_upd_le (L := L) ha rs bs xs h4 (by omega) (by omega)
    have hr := bo_row_le (a := a) (b0 := b) (x0 := x) ha cs bs xs (by omega) (by omega)
    simp only [bo_upd, bo_qf, bo_dl, bo_sq, List.length_cons]
    have hd := Int.mul_ediv_add_emod (b * b) a
    have hm0 := Int.emod_nonneg (b * b) (show a ≠ 0 by omega)
    have hm1 := Int.emod_lt_of_pos (b * b) ha
    generalize b * b / a = qq at *
    generalize b * b % a = r at *
    have hx := bo_sq0 x
    have key := Int.mul_le_mul_of_nonneg_right (show r ≤ a by omega) hx
    rw [show bs.length = rs.length by omega] at hr
    generalize bo_dl cs xs = s1 at *
    generalize bo_dl bs xs = s2 at *
    generalize bo_dl (bo_row a b cs bs) xs = s3 at *
    generalize bo_qf rs xs = s4 at *
    generalize bo_qf (bo_upd a L rs bs) xs = s5 at *
    generalize bo_sq xs = s6 at *
    have e : a * (c * (x * x) + 2 * (x * s1) + s4) - (b * x + s2) * (b * x + s2) - a * ((c - qq - L) * (x * x) + 2 * (x * s3) + s5) = (a * s4 - s2 * s2 - a * s5) + 2 * x * (a * s1 - b * s2 - a * s3) + (a * qq - b * b) * (x * x) + a * L * (x * x) := by grind
    rw [e, show a * qq - b * b = -r by omega]
    have e2 : a * ((L - ((rs.length + 1 : Nat) : Int)) * (x * x + s6)) = a * ((L - rs.length) * s6) - a * (rs.length * (x * x) + s6) - a * (x * x) + a * L * (x * x) := by
      push_cast; grind
    rw [e2, Int.neg_mul]
    omega
theorem bo_psd_ok : ∀ (f : Nat) (M : List (List Int)), bo_tri M → bo_psd f M = true → ∀ xs : List Int, xs.length = M.length → 0 ≤ bo_qf M xs
  | _, [], _, _, xs, _ => by simp [bo_qf]
  | 0, _ :: _, _, h, _, _ => by simp [bo_psd] at h
  | f + 1, [] :: rs, h, _, _, _ => by simp [bo_tri] at h
  | f + 1, (a :: b) :: rs, _, _, [], h => by simp at h
  | f + 1, (a :: b) :: rs, hT, h, x :: xs, hx => by
    obtain ⟨h1, h2⟩ := hT
    simp only [List.length_cons] at h1 hx
    rw [bo_psd, Bool.and_eq_true, decide_eq_true_eq] at h
    obtain ⟨ha, hp⟩ := h
    have ht := bo_upd_tri (a := a) (L := b.length) rs b h2 (by omega)
    have ih := bo_psd_ok f _ ht.1 hp xs (by omega)
    have hu := bo_upd_le (a := a) (L := b.length) ha rs b xs h2 (by omega) (by omega)
    rw [show ((b.length : Int) - rs.length) = 0 by omega, Int.zero_mul, Int.mul_zero] at hu
    rw [bo_qf]
    have hs := bo_sq0 (a * x + bo_dl b xs)
    have e : a * (a * (x * x) + 2 * (x * bo_dl b xs) + bo_qf rs xs) = (a * x + bo_dl b xs) * (a * x + bo_dl b xs) + (a * bo_qf rs xs - bo_dl b xs * bo_dl b xs) := by grind
    have g := Int.mul_nonneg (Int.le_of_lt ha) ih
    have g2 : 0 ≤ a * (a * (x * x) + 2 * (x * bo_dl b xs) + bo_qf rs xs) := by rw [e]; omega
    generalize a * (x * x) + 2 * (x * bo_dl b xs) + bo_qf rs xs = t at *
    by_cases z : t < 0
    · have := Int.mul_neg_of_pos_of_neg ha z
      omega
    · omega
