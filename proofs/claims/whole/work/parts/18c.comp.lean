/-! WHAT THE KERNEL COUNTS WITH -/
/-- a number, counted out before it is handed on -/
noncomputable def bn_fn (p : Nat) (k : Nat → List Int) : List Int := @Nat.rec (fun _ => List Int) (k 0) (fun p' _ => k (Nat.succ p')) p
noncomputable def bn_cs (x : Int) (xs : List Int) : List Int := @Int.rec (fun _ => List Int) (fun p => bn_fn p fun q => Int.ofNat q :: xs) (fun p => bn_fn p fun q => Int.negSucc q :: xs) x
theorem bn_cs_eq : ∀ (x : Int) (xs : List Int), bn_cs x xs = x :: xs
  | Int.ofNat 0, _ => rfl
  | Int.ofNat (_ + 1), _ => rfl
  | Int.negSucc 0, _ => rfl
  | Int.negSucc (_ + 1), _ => rfl
noncomputable def bn_dl (u : List Int) : List Int → Int :=
  @List.rec Int (fun _ => List Int → Int) (fun _ => 0) (fun a _ ih v => @List.rec Int (fun _ => Int) 0 (fun b bs _ => Int.add (Int.mul a b) (ih bs)) v) u
theorem bn_dl_eq : ∀ u v : List Int, bn_dl u v = bo_dl u v
  | [], _ => rfl
  | _ :: _, [] => rfl
  | a :: u, b :: v => by
    show Int.add (Int.mul a b) (bn_dl u v) = _
    rw [bn_dl_eq u v, bo_dl]; rfl
noncomputable def bn_ln (a b : Int) (u : List Int) : List Int → List Int :=
  @List.rec Int (fun _ => List Int → List Int) (fun _ => []) (fun x _ ih v => @List.rec Int (fun _ => List Int) [] (fun y ys _ => bn_cs (Int.add (Int.mul a x) (Int.mul b y)) (ih ys)) v) u
noncomputable def bn_ml (u : List Int) : List Int → List Int :=
  @List.rec Int (fun _ => List Int → List Int) (fun _ => []) (fun x _ ih v => @List.rec Int (fun _ => List Int) [] (fun y ys _ => bn_cs (Int.mul x y) (ih ys)) v) u
noncomputable def bn_mp (f : Int → Int) (u : List Int) : List Int := @List.rec Int (fun _ => List Int) [] (fun x _ ih => bn_cs (f x) ih) u
noncomputable def bn_row (a b0 : Int) (cs : List Int) : List Int → List Int :=
  @List.rec Int (fun _ => List Int → List Int) (fun _ => []) (fun c _ ih bs => @List.rec Int (fun _ => List Int) [] (fun b bs _ => bn_cs (Int.sub c (Int.ediv (Int.mul b0 b) a)) (ih bs)) bs) cs
theorem bn_row_eq {a b0 : Int} : ∀ cs bs : List Int, bn_row a b0 cs bs = bo_row a b0 cs bs
  | [], _ => by rw [bo_row.eq_2]; rfl; intro c cs b bs h; cases h
  | _ :: _, [] => by rw [bo_row.eq_2]; rfl; intro c cs b bs _ h; cases h
  | c :: cs, b :: bs => by
    show bn_cs (Int.sub c (Int.ediv (Int.mul b0 b) a)) (bn_row a b0 cs bs) = _
    rw [bn_cs_eq, bn_row_eq cs bs, bo_row]; rfl
noncomputable def bn_upd (a L : Int) (rs : List (List Int)) : List Int → List (List Int) :=
  @List.rec (List Int) (fun _ => List Int → List (List Int)) (fun _ => []) (fun r _ ih bs => @List.rec Int (fun _ => List (List Int)) [] (fun b bs _ => @List.rec Int (fun _ => List (List Int)) [] (fun c cs _ => bn_cs (Int.sub (Int.sub c (Int.ediv (Int.mul b b) a)) L) (bn_row a b cs bs) :: ih bs) r) bs) rs
theorem bn_upd_eq {a L : Int} : ∀ (rs : List (List Int)) (bs : List Int), bn_upd a L rs bs = bo_upd a L rs bs
  | [], _ => by rw [bo_upd.eq_2]; rfl; intro c cs rs b bs h; cases h
  | _ :: _, [] => by rw [bo_upd.eq_2]; rfl; intro c cs rs b bs _ h; cases h
  | [] :: _, _ :: _ => by rw [bo_upd.eq_2]; rfl; intro c cs rs b bs h; cases h
  | (c :: cs) :: rs, b :: bs => by
    show bn_cs (Int.sub (Int.sub c (Int.ediv (Int.mul b b) a)) L) (bn_row a b cs bs) :: bn_upd a L rs bs = _
    rw [bn_cs_eq, bn_upd_eq rs bs, bn_row_eq, bo_upd]; rfl
noncomputable def bn_psd (f : Nat) : List (List Int) → Bool :=
  @Nat.rec (fun _ => List (List Int) → Bool) (fun M => @List.rec (List Int) (fun _ => Bool) true (fun _ _ _ => false) M) (fun _ ih M => @List.rec (List Int) (fun _ => Bool) true (fun r rs _ => @List.rec Int (fun _ => Bool) false (fun a b _ => @Int.rec (fun _ => Bool) (fun p => @Nat.rec (fun _ => Bool) false (fun p' _ => ih (bn_upd (Int.ofNat (Nat.succ p')) b.length rs b)) p) (fun _ => false) a) r) M) f
theorem bn_psd_eq : ∀ (f : Nat) (M : List (List Int)), bn_psd f M = true → bo_psd f M = true
  | _, [], _ => by rw [bo_psd]
  | 0, _ :: _, h => by exact absurd h Bool.false_ne_true
  | f + 1, [] :: rs, h => by exact absurd h Bool.false_ne_true
  | f + 1, (Int.ofNat 0 :: b) :: rs, h => by exact absurd h Bool.false_ne_true
  | f + 1, (Int.negSucc k :: b) :: rs, h => by exact absurd h Bool.false_ne_true
  | f + 1, (Int.ofNat (k + 1) :: b) :: rs, h => by
    have h1 : bn_psd f (bn_upd (Int.ofNat (Nat.succ k)) b.length rs b) = true := h
    rw [bn_upd_eq] at h1
    have h2 := bn_psd_eq f _ h1
    rw [bo_psd, Bool.and_eq_true, decide_eq_true_eq]
    exact ⟨by simp only [Int.ofNat_eq_natCast]; omega, h2⟩
noncomputable def bn_mv (f : List Int → Int) (us : List (List Int)) : List Int := @List.rec (List Int) (fun _ => List Int) [] (fun x _ ih => bn_cs (f x) ih) us
/-- the triangle of the products of vectors -/
noncomputable def bn_tri (de : List Int) (us : List (List Int)) : List (List Int) :=
  @List.rec (List Int) (fun _ => List (List Int)) [] (fun u us ih => (fun du => bn_cs (bn_dl du u) (bn_mv (bn_dl du) us) :: ih) (bn_ml de u)) us
/-- the diagonal times c, the rest times d -/
noncomputable def bn_md (c d : Int) (M : List (List Int)) : List (List Int) := M.map fun r => @List.rec Int (fun _ => List Int) [] (fun a b _ => bn_cs (Int.mul c a) (bn_mp (Int.mul d) b)) r
/-! the tables of vectors: each step is counted out before the next -/
noncomputable def bn_fk {β : Type} (p : Nat) (k : Nat → β) : β := @Nat.rec (fun _ => β) (k 0) (fun p' _ => k (Nat.succ p')) p
noncomputable def bn_fi {β : Type} (x : Int) (k : Int → β) : β := @Int.rec (fun _ => β) (fun p => bn_fk p fun q => k (Int.ofNat q)) (fun p => bn_fk p fun q => k (Int.negSucc q)) x
noncomputable def bn_fv {β : Type} (xs : List Int) : (List Int → β) → β := @List.rec Int (fun _ => (List Int → β) → β) (fun k => k []) (fun x _ ih k => bn_fi x fun x' => ih fun xs' => k (x' :: xs')) xs
abbrev bn_VV : Type := List (List Int)
noncomputable def bn_fV {β : Type} (xs : bn_VV) : (bn_VV → β) → β := @List.rec (List Int) (fun _ => (bn_VV → β) → β) (fun k => k []) (fun x _ ih k => bn_fv x fun x' => ih fun xs' => k (x' :: xs')) xs
def bn_S (w : Nat) : Nat := if w = 0 then 2 else if w = 1 then 8 else 4096 ^ 4
noncomputable def bn_add (u v : List Int) : List Int := bn_ln 1 1 u v
/-- each with the one before it, the last once more -/
noncomputable def bn_aO (p : List Int) (os : bn_VV) : bn_VV :=
  @List.rec (List Int) (fun _ => List Int → bn_VV) (fun _ => []) (fun o t ih p => @List.rec (List Int) (fun _ => bn_VV) [bn_add (bn_add o o) p] (fun _ _ _ => bn_add o p :: ih o) t) os p
/-- each with the one behind it, the last with itself -/
noncomputable def bn_aN (es : bn_VV) : bn_VV :=
  @List.rec (List Int) (fun _ => bn_VV) [] (fun e t ih => @List.rec (List Int) (fun _ => bn_VV) [bn_add e e] (fun e2 _ _ => bn_add e e2 :: ih) t) es
noncomputable def bn_zs (n : Nat) : List Int := List.replicate n 0
noncomputable def bn_l2 (a b : Int) (us : bn_VV) : bn_VV → bn_VV :=
  @List.rec (List Int) (fun _ => bn_VV → bn_VV) (fun _ => []) (fun u _ ih vs => @List.rec (List Int) (fun _ => bn_VV) [] (fun v vs _ => bn_ln a b u v :: ih vs) vs) us
noncomputable def bn_sc (a : Int) (us : bn_VV) : bn_VV := @List.rec (List Int) (fun _ => bn_VV) [] (fun u _ ih => bn_mp (Int.mul a) u :: ih) us
noncomputable def bn_rv (us : bn_VV) : bn_VV := @List.rec (List Int) (fun _ => bn_VV → bn_VV) (fun a => a) (fun u _ ih a => ih (u :: a)) us []
abbrev bn_P : Type := bn_VV × bn_VV
/-- vectors through a step on the odds: o + c (e + e') / D -/
noncomputable def bn_uO (n : Nat) (two : Bool) (D c : Int) (E O : bn_VV) (k : bn_VV → bn_VV → bn_P) : bn_P := bn_fV (bn_l2 D (-c) E (if two then bn_aO (bn_zs n) O else O)) fun E' => bn_fV (bn_sc D O) fun O' => k E' O'
noncomputable def bn_uE (n : Nat) (two : Bool) (D c : Int) (E O : bn_VV) (k : bn_VV → bn_VV → bn_P) : bn_P := bn_fV (bn_sc D E) fun E' => bn_fV (bn_l2 D (-c) O (if two then bn_rv (bn_aO (bn_zs n) (bn_rv E)) else E)) fun O' => k E' O'
noncomputable def bn_vO (two : Bool) (D c : Int) (E O : bn_VV) (k : bn_VV → bn_VV → bn_P) : bn_P := bn_fV (bn_sc D E) fun E' => bn_fV (bn_l2 D c O (if two then bn_aN E else E)) fun O' => k E' O'
noncomputable def bn_vE (two : Bool) (D c : Int) (E O : bn_VV) (k : bn_VV → bn_VV → bn_P) : bn_P := bn_fV (bn_l2 D c E (if two then bn_rv (bn_aN (bn_rv O)) else O)) fun E' => bn_fV (bn_sc D O) fun O' => k E' O'
/-- the last step, with what all numbers of the one band have in common left out -/
noncomputable def bn_uL (n : Nat) (two : Bool) (D c : Int) (E O : bn_VV) : bn_P := bn_fV (bn_l2 D (-c) O (if two then bn_rv (bn_aO (bn_zs n) (bn_rv E)) else E)) fun O' => (E, O')
noncomputable def bn_vL (two : Bool) (D c : Int) (E O : bn_VV) : bn_P := bn_fV (bn_l2 D c E (if two then bn_rv (bn_aN (bn_rv O)) else O)) fun E' => (E', O)
noncomputable def bn_us (n w : Nat) (E O : bn_VV) : bn_P := if w = 0 then bn_uO n false 1 (-1) E O (bn_uL n false 2 1) else if w = 1 then bn_uO n true 2 (-1) E O (bn_uL n true 4 1) else bn_uO n true 4096 (-6497) E O fun E O => bn_uE n true 4096 (-217) E O fun E O => bn_uO n true 4096 3616 E O (bn_uL n true 4096 1817)
noncomputable def bn_vs (w : Nat) (E O : bn_VV) : bn_P := if w = 0 then bn_vO false 1 (-1) E O (bn_vL false 2 1) else if w = 1 then bn_vO true 2 (-1) E O (bn_vL true 4 1) else bn_vO true 4096 (-6497) E O fun E O => bn_vE true 4096 (-217) E O fun E O => bn_vO true 4096 3616 E O (bn_vL true 4096 1817)
/-- every other one -/
noncomputable def bn_eo (us : bn_VV) : bn_P := @List.rec (List Int) (fun _ => bn_P) ([], []) (fun u _ ih => (u :: ih.2, ih.1)) us
noncomputable def bn_kd (f : bn_VV → bn_VV → bn_P) (us : bn_VV) : bn_P := @List.rec (List Int) (fun _ => bn_P) ([], []) (fun _ t _ => @List.rec (List Int) (fun _ => bn_P) ([], []) (fun _ _ _ => bn_fV (bn_eo us).1 fun E => bn_fV (bn_eo us).2 fun O => f E O) t) us
/-- a level out of the one above it -/
noncomputable def bn_lev {β : Type} (f : bn_VV → bn_VV → bn_P) (L : List bn_VV) : (List bn_VV → β) → β := @List.rec bn_VV (fun _ => (List bn_VV → β) → β) (fun k => k []) (fun us _ ih k => @Prod.rec bn_VV bn_VV (fun _ => β) (fun E O => ih fun t => k (E :: O :: t)) (bn_kd f us)) L
/-- all nodes out of the root's vectors -/
noncomputable def bn_tab (f : bn_VV → bn_VV → bn_P) (us : bn_VV) : List bn_VV := bn_fV us fun us => bn_lev f [us] fun L1 => bn_lev f L1 fun L2 => bn_lev f L2 fun L3 => [] :: us :: (L1 ++ (L2 ++ L3))
noncomputable def bn_inv (n : Nat) (rows : bn_VV) : bn_VV :=
  @List.rec (List Int) (fun _ => Nat → (bn_VV → bn_VV) → bn_VV) (fun _ k => k []) (fun r _ ih i k => ih (i + 1) fun R => bn_fv ((List.zip r R).foldl (fun v q => bn_ln 1 (-1) v (bn_mp (fun x => Int.ediv (Int.mul q.1 x) 4095) q.2)) (List.replicate i 0 ++ (4095 ^ (n - 1) :: List.replicate (n - 1 - i) 0))) fun v => k (v :: R)) rows 0 fun R => R
