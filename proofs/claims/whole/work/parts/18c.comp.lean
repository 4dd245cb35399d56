/-! WHAT THE KERNEL COUNTS WITH -/
noncomputable def bn_dl (u : List Int) : List Int → Int :=
  @List.rec Int (fun _ => List Int → Int) (fun _ => 0) (fun a _ ih v => @List.rec Int (fun _ => Int) 0 (fun b bs _ => Int.add (Int.mul a b) (ih bs)) v) u
theorem bn_dl_eq : ∀ u v : List Int, bn_dl u v = bo_dl u v
  | [], _ => rfl
  | _ :: _, [] => rfl
  | a :: u, b :: v => by
    show Int.add (Int.mul a b) (bn_dl u v) = _
    rw [bn_dl_eq u v, bo_dl]; rfl
noncomputable def bn_ln (a b : Int) (u : List Int) : List Int → List Int :=
  @List.rec Int (fun _ => List Int → List Int) (fun _ => []) (fun x _ ih v => @List.rec Int (fun _ => List Int) [] (fun y ys _ => Int.add (Int.mul a x) (Int.mul b y) :: ih ys) v) u
noncomputable def bn_ml (u : List Int) : List Int → List Int :=
  @List.rec Int (fun _ => List Int → List Int) (fun _ => []) (fun x _ ih v => @List.rec Int (fun _ => List Int) [] (fun y ys _ => Int.mul x y :: ih ys) v) u
noncomputable def bn_mp (f : Int → Int) (u : List Int) : List Int := @List.rec Int (fun _ => List Int) [] (fun x _ ih => f x :: ih) u
noncomputable def bn_row (a b0 : Int) (cs : List Int) : List Int → List Int :=
  @List.rec Int (fun _ => List Int → List Int) (fun _ => []) (fun c _ ih bs => @List.rec Int (fun _ => List Int) [] (fun b bs _ => (Int.sub c (Int.ediv (Int.mul b0 b) a)) :: ih bs) bs) cs
theorem bn_row_eq {a b0 : Int} : ∀ cs bs : List Int, bn_row a b0 cs bs = bo_row a b0 cs bs
  | [], _ => by rw [bo_row.eq_2]; rfl; intro c cs b bs h; cases h
  | _ :: _, [] => by rw [bo_row.eq_2]; rfl; intro c cs b bs _ h; cases h
  | c :: cs, b :: bs => by
    show Int.sub c (Int.ediv (Int.mul b0 b) a) :: bn_row a b0 cs bs = _
    rw [bn_row_eq cs bs, bo_row]; rfl
noncomputable def bn_upd (a L : Int) (rs : List (List Int)) : List Int → List (List Int) :=
  @List.rec (List Int) (fun _ => List Int → List (List Int)) (fun _ => []) (fun r _ ih bs => @List.rec Int (fun _ => List (List Int)) [] (fun b bs _ => @List.rec Int (fun _ => List (List Int)) [] (fun c cs _ => (Int.sub (Int.sub c (Int.ediv (Int.mul b b) a)) L :: bn_row a b cs bs) :: ih bs) r) bs) rs
theorem bn_upd_eq {a L : Int} : ∀ (rs : List (List Int)) (bs : List Int), bn_upd a L rs bs = bo_upd a L rs bs
  | [], _ => by rw [bo_upd.eq_2]; rfl; intro c cs rs b bs h; cases h
  | _ :: _, [] => by rw [bo_upd.eq_2]; rfl; intro c cs rs b bs _ h; cases h
  | [] :: _, _ :: _ => by rw [bo_upd.eq_2]; rfl; intro c cs rs b bs h; cases h
  | (c :: cs) :: rs, b :: bs => by
    show (Int.sub (Int.sub c (Int.ediv (Int.mul b b) a)) L :: bn_row a b cs bs) :: bn_upd a L rs bs = _
    rw [bn_upd_eq rs bs, bn_row_eq, bo_upd]; rfl
noncomputable def bn_psd (f : Nat) : List (List Int) → Bool :=
  @Nat.rec (fun _ => List (List Int) → Bool) (fun M => @List.rec (List Int) (fun _ => Bool) true (fun _ _ _ => false) M) (fun _ ih M => @List.rec (List Int) (fun _ => Bool) true (fun r rs _ => @List.rec Int (fun _ => Bool) false (fun a b _ => @Int.rec (fun _ => Bool) (fun p => @Nat.rec (fun _ => Bool) false (fun p' _ => ih (bn_upd (Int.ofNat (Nat.succ p')) b.length rs b)) p) (fun _ => false) a) r) M) f
theorem bn_psd_eq : ∀ (f : Nat) (M : List (List Int)), bn_psd f M = true → bo_psd f M = true
  | _, [], _ => by rw [bo_psd]
  | 0, _ :: _, h => by exact absurd h Bool.false_ne_true
  | f + 1, [] :: rs, h => by exact absurd h Bool.false_ne_true
  | f + 1, (Int.ofNat 0 :: b) :: rs, h => by exact absurd h Bool.false_ne_true
  | f + 1, (Int.negSucc k :: b) :: rs, h => by exact absurd h Bool.false_ne_true
  | f + 1, (Int.ofNat (k + 1) :: b) :: rs, h => by
    have h1 : bn_psd f (bn_upd (Int.ofNat (Nat.succ k)) b.length rs b) = true := h
    rw [bn_upd_eq] at h1
    have h2 := bn_psd_eq f _ h1
    rw [bo_psd, Bool.and_eq_true, decide_eq_true_eq]
    exact ⟨by simp only [Int.ofNat_eq_natCast]; omega, h2⟩
/-- the triangle of the products of vectors -/
noncomputable def bn_tri (de : List Int) (us : List (List Int)) : List (List Int) :=
  @List.rec (List Int) (fun _ => List (List Int)) [] (fun u us ih => (fun du => (bn_dl du u :: us.map (bn_dl du)) :: ih) (bn_ml de u)) us
/-- the diagonal times c, the rest times d -/
noncomputable def bn_md (c d : Int) (M : List (List Int)) : List (List Int) := M.map fun r => @List.rec Int (fun _ => List Int) [] (fun a b _ => Int.mul c a :: bn_mp (Int.mul d) b) r
/-! the tables of vectors -/
def bn_S (w : Nat) : Nat := if w = 0 then 2 else if w = 1 then 8 else 4096 ^ 4
noncomputable def bn_add (u v : List Int) : List Int := bn_ln 1 1 u v
/-- each with the one before it, the last once more -/
noncomputable def bn_aO (p : List Int) (os : List (List Int)) : List (List Int) :=
  @List.rec (List Int) (fun _ => List Int → List (List Int)) (fun _ => []) (fun o t ih p => @List.rec (List Int) (fun _ => List (List Int)) [bn_add (bn_add o o) p] (fun _ _ _ => bn_add o p :: ih o) t) os p
/-- each with the one behind it, the last with itself -/
noncomputable def bn_aN (es : List (List Int)) : List (List Int) :=
  @List.rec (List Int) (fun _ => List (List Int)) [] (fun e t ih => @List.rec (List Int) (fun _ => List (List Int)) [bn_add e e] (fun e2 _ _ => bn_add e e2 :: ih) t) es
noncomputable def bn_zs (n : Nat) : List Int := List.replicate n 0
noncomputable def bn_l2 (a b : Int) (us vs : List (List Int)) : List (List Int) := List.zipWith (bn_ln a b) us vs
noncomputable def bn_sc (a : Int) (us : List (List Int)) : List (List Int) := us.map (bn_mp (Int.mul a))
abbrev bn_P : Type := List (List Int) × List (List Int)
/-- vectors through a step on the odds: o + c (e + e') / D -/
noncomputable def bn_uO (n : Nat) (two : Bool) (D c : Int) (p : bn_P) : bn_P := (bn_l2 D (-c) p.1 (if two then bn_aO (bn_zs n) p.2 else p.2), bn_sc D p.2)
noncomputable def bn_uE (n : Nat) (two : Bool) (D c : Int) (p : bn_P) : bn_P := (bn_sc D p.1, bn_l2 D (-c) p.2 (if two then (bn_aO (bn_zs n) p.1.reverse).reverse else p.1))
noncomputable def bn_vO (two : Bool) (D c : Int) (p : bn_P) : bn_P := (bn_sc D p.1, bn_l2 D c p.2 (if two then bn_aN p.1 else p.1))
noncomputable def bn_vE (two : Bool) (D c : Int) (p : bn_P) : bn_P := (bn_l2 D c p.1 (if two then (bn_aN p.2.reverse).reverse else p.2), bn_sc D p.2)
noncomputable def bn_us (n w : Nat) (p : bn_P) : bn_P := if w = 0 then bn_uE n false 2 1 (bn_uO n false 1 (-1) p) else if w = 1 then bn_uE n true 4 1 (bn_uO n true 2 (-1) p) else bn_uE n true 4096 1817 (bn_uO n true 4096 3616 (bn_uE n true 4096 (-217) (bn_uO n true 4096 (-6497) p)))
noncomputable def bn_vs (w : Nat) (p : bn_P) : bn_P := if w = 0 then bn_vE false 2 1 (bn_vO false 1 (-1) p) else if w = 1 then bn_vE true 4 1 (bn_vO true 2 (-1) p) else bn_vE true 4096 1817 (bn_vO true 4096 3616 (bn_vE true 4096 (-217) (bn_vO true 4096 (-6497) p)))
/-- every other one -/
noncomputable def bn_ev (us : List (List Int)) : List (List Int) := (@List.rec (List Int) (fun _ => bn_P) ([], []) (fun u _ ih => (u :: ih.2, ih.1)) us).1
noncomputable def bn_od (us : List (List Int)) : List (List Int) := (@List.rec (List Int) (fun _ => bn_P) ([], []) (fun u _ ih => (u :: ih.2, ih.1)) us).2
noncomputable def bn_kd (f : bn_P → bn_P) (S : Int) (us : List (List Int)) : bn_P := @List.rec (List Int) (fun _ => bn_P) ([], []) (fun _ t _ => @List.rec (List Int) (fun _ => bn_P) ([], []) (fun _ _ _ => (fun q => (q.1.map (bn_mp fun x => Int.ediv x S), q.2.map (bn_mp fun x => Int.ediv x S))) (f (bn_ev us, bn_od us))) t) us
noncomputable def bn_lev (f : bn_P → bn_P) (S : Int) (L : List (List (List Int))) : List (List (List Int)) := @List.rec (List (List Int)) (fun _ => List (List (List Int))) [] (fun us _ ih => (fun q : bn_P => q.1 :: q.2 :: ih) (bn_kd f S us)) L
/-- all nodes out of the root's vectors -/
noncomputable def bn_tab (f : bn_P → bn_P) (S : Int) (us : List (List Int)) : List (List (List Int)) := (fun L1 => (fun L2 => [] :: us :: (L1 ++ L2 ++ bn_lev f S L2)) (bn_lev f S L1)) (bn_lev f S [us])
def bn_nb (n : Nat) : Nat := 10 * (n - 1)
noncomputable def bn_inv (n : Nat) (rows : List (List Int)) : List (List Int) :=
  @List.rec (List Int) (fun _ => Nat → List (List Int)) (fun _ => []) (fun r _ ih i => (fun R => (List.zip r R).foldl (fun v q => bn_ln 1 (-1) v (bn_mp (fun x => Int.ediv (Int.mul q.1 x) 1024) q.2)) (List.replicate i 0 ++ (2 ^ bn_nb n :: List.replicate (n - 1 - i) 0)) :: R) (ih (i + 1))) rows 0
