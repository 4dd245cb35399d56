/-! THE PURE INTERPRETER: the bytecode of these classes over a fixed graph of objects. Values: .ref k is the k-th object of p_obs; an unset local is p_U. -/
def p_U : Value := .retAddr 0
abbrev pW : Type := (Nat → Nat → Int32) × (Nat → Nat → Int64) × (Nat → Nat → Int32)
abbrev pO : Type := Option Value ⊕ (Nat ⊕ List Value)
abbrev pR : Type := pO × pW × Nat
abbrev pJ : Type := Nat × List Value × List Value × pW
abbrev pS : Type := pR ⊕ (pJ ⊕ (Nat × List Value × List Value))
abbrev pX : Type := Option (Nat × (Nat → Int32))
def p_u {α : Type} (f : Nat → Nat → α) (o k : Nat) (v : α) : Nat → Nat → α := fun a b => if a = o ∧ b = k then v else f a b
def p_J (pc : Nat) (L st : List Value) (w : pW) : Option pS := some (.inr (.inl (pc, L, st, w)))
def p_D (o : pO) (w : pW) (k : Nat) : Option pS := some (.inl (o, w, k))
def p_st (L : List Value) (k : Nat) (v : Value) : List Value :=
  (match k with
   | 0 => L
   | j + 1 => match L[j]? with
     | some x => if x.category = 2 then L.set j p_U else L
     | none => L).set k v
def p_lI (k pc : Nat) (L st : List Value) (w : pW) : Option pS := match L[k]? with
  | some (.int x) => p_J pc L (.int x :: st) w
  | _ => none
def p_lJ (k pc : Nat) (L st : List Value) (w : pW) : Option pS := match L[k]? with
  | some (.long x) => p_J pc L (.long x :: st) w
  | _ => none
def p_lA (k pc : Nat) (L st : List Value) (w : pW) : Option pS := match L[k]? with
  | some (.ref x) => p_J pc L (.ref x :: st) w
  | _ => none
def p_sI (k pc : Nat) (L st : List Value) (w : pW) : Option pS := match st with
  | .int x :: s => if k < L.length then p_J pc (p_st L k (.int x)) s w else none
  | _ => none
def p_sJ (k pc : Nat) (L st : List Value) (w : pW) : Option pS := match st with
  | .long x :: s => if k + 1 < L.length then p_J pc ((p_st L k (.long x)).set (k + 1) p_U) s w else none
  | _ => none
def p_i1 (f : Int32 → Int32) (pc : Nat) (L st : List Value) (w : pW) : Option pS := match st with
  | .int x :: s => p_J pc L (.int (f x) :: s) w
  | _ => none
def p_i2 (f : Int32 → Int32 → Int32) (pc : Nat) (L st : List Value) (w : pW) : Option pS := match st with
  | .int y :: .int x :: s => p_J pc L (.int (f x y) :: s) w
  | _ => none
def p_i2z (f : Int32 → Int32 → Int32) (pc : Nat) (L st : List Value) (w : pW) : Option pS := match st with
  | .int y :: .int x :: s => if y = 0 then none else p_J pc L (.int (f x y) :: s) w
  | _ => none
def p_l1 (f : Int64 → Int64) (pc : Nat) (L st : List Value) (w : pW) : Option pS := match st with
  | .long x :: s => p_J pc L (.long (f x) :: s) w
  | _ => none
def p_l2 (f : Int64 → Int64 → Int64) (pc : Nat) (L st : List Value) (w : pW) : Option pS := match st with
  | .long y :: .long x :: s => p_J pc L (.long (f x y) :: s) w
  | _ => none
def p_l2z (f : Int64 → Int64 → Int64) (pc : Nat) (L st : List Value) (w : pW) : Option pS := match st with
  | .long y :: .long x :: s => if y = 0 then none else p_J pc L (.long (f x y) :: s) w
  | _ => none
def p_lsh (f : Int64 → Int32 → Int64) (pc : Nat) (L st : List Value) (w : pW) : Option pS := match st with
  | .int y :: .long x :: s => p_J pc L (.long (f x y) :: s) w
  | _ => none
/-- a jump: the target, if it isn't before the code's begin -/
def p_tg (pc : Nat) (off : Int) : Nat := ((pc : Int) + off).toNat
def p_bo (pc : Nat) (off : Int) : Bool := decide (0 ≤ (pc : Int) + off)
def p_b2 (c : Int32 → Int32 → Bool) (pc : Nat) (off : Int) (L st : List Value) (w : pW) : Option pS := match st with
  | .int y :: .int x :: s => if p_bo pc off = true then p_J (if c x y = true then p_tg pc off else pc + 3) L s w else none
  | _ => none
def p_b1 (c : Int32 → Bool) (pc : Nat) (off : Int) (L st : List Value) (w : pW) : Option pS := match st with
  | .int x :: s => if p_bo pc off = true then p_J (if c x = true then p_tg pc off else pc + 3) L s w else none
  | _ => none
def p_ob (o : Nat) : Option ((Nat × Nat) ⊕ (Nat × List (Option Nat))) := p_obs[o]?
def p_fv (w : pW) (o k : Nat) (f : Option Nat) : Value := match f with
  | some t => .ref t
  | none => .int (w.1 o k)
def p_gf (mi idx pc : Nat) (L st : List Value) (w : pW) : Option pS := match st with
  | .ref o :: s => match p_fld (p_own mi) idx with
    | some (ci, k) => match p_ob o with
      | some (.inr (cj, fs)) => if cj = ci then (match fs[k]? with
        | some f => p_J (pc + 3) L (p_fv w o k f :: s) w
        | none => none) else none
      | _ => none
    | none => none
  | _ => none
def p_pf (mi idx pc : Nat) (L st : List Value) (w : pW) : Option pS := match st with
  | .int v :: .ref o :: s => match p_fld (p_own mi) idx with
    | some (ci, k) => match p_ob o with
      | some (.inr (cj, fs)) => if cj = ci then (match fs[k]? with
        | some none => p_J (pc + 3) L s (p_u w.1 o k v, w.2)
        | _ => none) else none
      | _ => none
    | none => none
  | _ => none
def p_out (i : Int32) (n : Nat) : Bool := decide (i < 0 ∨ n ≤ i.toNatClampNeg)
/-- an int-like array's reading; the script is object 999 -/
def p_ald (scr : pX) (ty pc : Nat) (L st : List Value) (w : pW) : Option pS := match st with
  | .int i :: .ref o :: s => match p_ob o with
    | some (.inl (t, n)) => if t = ty ∧ p_out i n = false then p_J (pc + 1) L (.int (w.2.2 o i.toNatClampNeg) :: s) w else none
    | some (.inr _) => none
    | none => match scr with
      | some (n, xs) => if o = 999 ∧ ty = 1 ∧ p_out i n = false then p_J (pc + 1) L (.int (xs i.toNatClampNeg) :: s) w else none
      | none => none
  | _ => none
def p_lald (pc : Nat) (L st : List Value) (w : pW) : Option pS := match st with
  | .int i :: .ref o :: s => match p_ob o with
    | some (.inl (t, n)) => if t = 2 ∧ p_out i n = false then p_J (pc + 1) L (.long (w.2.1 o i.toNatClampNeg) :: s) w else none
    | _ => none
  | _ => none
/-- baload, bastore: byte or boolean -/
def p_bald (pc : Nat) (L st : List Value) (w : pW) : Option pS := match st with
  | .int i :: .ref o :: s => match p_ob o with
    | some (.inl (t, n)) => if (t = 0 ∨ t = 3) ∧ p_out i n = false then p_J (pc + 1) L (.int (w.2.2 o i.toNatClampNeg) :: s) w else none
    | _ => none
  | _ => none
def p_bty (t : Nat) : FieldType := if t = 0 then .byte else .boolean
def p_bast (pc : Nat) (L st : List Value) (w : pW) : Option pS := match st with
  | .int x :: .int i :: .ref o :: s => match p_ob o with
    | some (.inl (t, n)) => if (t = 0 ∨ t = 3) ∧ p_out i n = false then p_J (pc + 1) L s (w.1, w.2.1, p_u w.2.2 o i.toNatClampNeg (vp_nar (p_bty t) x)) else none
    | _ => none
  | _ => none
def p_iast (pc : Nat) (L st : List Value) (w : pW) : Option pS := match st with
  | .int x :: .int i :: .ref o :: s => match p_ob o with
    | some (.inl (t, n)) => if t = 1 ∧ p_out i n = false then p_J (pc + 1) L s (w.1, w.2.1, p_u w.2.2 o i.toNatClampNeg x) else none
    | _ => none
  | _ => none
def p_last (pc : Nat) (L st : List Value) (w : pW) : Option pS := match st with
  | .long x :: .int i :: .ref o :: s => match p_ob o with
    | some (.inl (t, n)) => if t = 2 ∧ p_out i n = false then p_J (pc + 1) L s (w.1, p_u w.2.1 o i.toNatClampNeg x, w.2.2) else none
    | _ => none
  | _ => none
def p_alen (scr : pX) (pc : Nat) (L st : List Value) (w : pW) : Option pS := match st with
  | .ref o :: s => match p_ob o with
    | some (.inl (_, n)) => p_J (pc + 1) L (.int (Int32.ofNat n) :: s) w
    | some (.inr _) => none
    | none => match scr with
      | some (n, _) => if o = 999 then p_J (pc + 1) L (.int (Int32.ofNat n) :: s) w else none
      | none => none
  | _ => none
def p_abs (x : Int64) : Int64 := if 0 < x then x else -x
def p_max (x y : Int64) : Int64 := if y < x then x else y
def p_min (x y : Int64) : Int64 := if y < x then y else x
def p_cs (l : List Value) : Nat := (l.map fun v => v.category).sum
def p_fits (mi mj : Nat) : Bool := decide (p_rF mj + 1 ≤ p_rF mi) && decide (8 + (p_ml mj + 11) + p_rL mj ≤ p_rL mi)
def p_mok (mi : Nat) : Bool := decide (1 ≤ p_rF mi) && decide (24 ≤ p_rL mi)
/-- a call: of Math, of a static method, of a method of an object of the method's own class -/
def p_iv (virt : Bool) (mi idx pc : Nat) (L st : List Value) (w : pW) : Option pS := match p_inv (p_own mi) idx with
  | some (0, 0, _) => match st with
    | .long x :: s => if virt = false ∧ p_cs s ≤ 8 ∧ p_mok mi = true then p_J (pc + 3) L (.long (p_abs x) :: s) w else none
    | _ => none
  | some (0, 1, _) => match st with
    | .long y :: .long x :: s => if virt = false ∧ p_cs s ≤ 8 ∧ p_mok mi = true then p_J (pc + 3) L (.long (p_max x y) :: s) w else none
    | _ => none
  | some (0, _, _) => match st with
    | .long y :: .long x :: s => if virt = false ∧ p_cs s ≤ 8 ∧ p_mok mi = true then p_J (pc + 3) L (.long (p_min x y) :: s) w else none
    | _ => none
  | some (_, mj, n) => if n ≤ st.length ∧ p_cs (st.drop n) ≤ 8 ∧ p_fits mi mj = true ∧ p_virt mj = virt ∧ p_cs (st.take n).reverse ≤ p_ml mj then
      (if virt = true then
        (match (st.take n).reverse with
         | .ref o :: _ => (match p_ob o with
           | some (.inr (cj, _)) => if cj = p_own mj then some (.inr (.inr (mj, (st.take n).reverse, st.drop n))) else none
           | _ => none)
         | _ => none)
       else some (.inr (.inr (mj, (st.take n).reverse, st.drop n)))) else none
  | none => none
def p_nw (mi ik pc : Nat) (st : List Value) (w : pW) : Option pS := match st, p_at mi (pc + 3), p_at mi (pc + 4), p_at mi (pc + 6), p_at mi (pc + 9) with
  | [], some .dup, some (.ldc is), some (.invokespecial ic), some .athrow => match p_thr (p_own mi) ik is ic with
    | some E => if 6 ≤ p_rF mi ∧ 82 ≤ p_rL mi then p_D (.inr (.inl E)) w 1 else none
    | none => none
  | _, _, _, _, _ => none
def p_irt (mi : Nat) (st : List Value) (w : pW) : Option pS := match st with
  | [.int v] => match p_rt mi with
    | some .int => p_D (.inl (some (.int v))) w 0
    | some .boolean => if narrow .boolean (.int v) = .int v then p_D (.inl (some (.int v))) w 0 else none
    | _ => none
  | _ => none
def p_lrt (mi : Nat) (st : List Value) (w : pW) : Option pS := match st with
  | [.long v] => if p_rt mi = some .long then p_D (.inl (some (.long v))) w 0 else none
  | _ => none
def p_vrt (mi : Nat) (st : List Value) (w : pW) : Option pS := match st with
  | [] => if p_rt mi = none then p_D (.inl none) w 0 else none
  | _ => none
def p_swt (pc : Nat) (d lo hi : Int) (os : Array Int) (L st : List Value) (w : pW) : Option pS := match st with
  | .int x :: s => if x.toInt < lo ∨ hi < x.toInt then (if p_bo pc d = true then p_J (p_tg pc d) L s w else none)
    else match os[(x.toInt - lo).toNat]? with
      | some off => if p_bo pc off = true then p_J (p_tg pc off) L s w else none
      | none => none
  | _ => none
def p_gt (mi pc : Nat) (off : Int) (L st : List Value) (w : pW) : Option pS :=
  if p_bo pc off = true then (if mi = p_lawI ∧ pc = p_lawG then (if st = [] then p_D (.inr (.inr L)) w 0 else none) else p_J (p_tg pc off) L st w) else none
def p_dup (pc : Nat) (L st : List Value) (w : pW) : Option pS := match st with
  | v :: s => if v.category = 1 then p_J (pc + 1) L (v :: v :: s) w else none
  | _ => none
def p_dup2 (pc : Nat) (L st : List Value) (w : pW) : Option pS := match st with
  | v :: u :: s => if v.category = 1 ∧ u.category = 1 then p_J (pc + 1) L (v :: u :: v :: u :: s) w else none
  | _ => none
def p_pop (pc : Nat) (L st : List Value) (w : pW) : Option pS := match st with
  | v :: s => if v.category = 1 then p_J (pc + 1) L s w else none
  | _ => none
def p_inc (k : Nat) (n : Int) (pc : Nat) (L st : List Value) (w : pW) : Option pS := match L[k]? with
  | some (.int x) => p_J (pc + 3) (L.set k (.int (x + Int32.ofInt n))) st w
  | _ => none
def p_ex (scr : pX) (mi pc : Nat) (ins : Instr) (L st : List Value) (w : pW) : Option pS :=
  match ins with
  | .iload k => p_lI k (pc + 2) L st w
  | .iload_n k => p_lI k.val (pc + 1) L st w
  | .lload k => p_lJ k (pc + 2) L st w
  | .lload_n k => p_lJ k.val (pc + 1) L st w
  | .aload k => p_lA k (pc + 2) L st w
  | .aload_n k => p_lA k.val (pc + 1) L st w
  | .istore k => p_sI k (pc + 2) L st w
  | .istore_n k => p_sI k.val (pc + 1) L st w
  | .lstore k => p_sJ k (pc + 2) L st w
  | .lstore_n k => p_sJ k.val (pc + 1) L st w
  | .iconst n => p_J (pc + 1) L (.int (Int32.ofInt n) :: st) w
  | .bipush n => p_J (pc + 2) L (.int (Int8.ofInt n).toInt32 :: st) w
  | .sipush n => p_J (pc + 3) L (.int (Int16.ofInt n).toInt32 :: st) w
  | .lconst n => p_J (pc + 1) L (.long (Int64.ofNat n.val) :: st) w
  | .ldc i => (match p_cI (p_own mi) i with
    | some v => p_J (pc + 2) L (.int v :: st) w
    | none => none)
  | .ldc2_w i => (match p_cJ (p_own mi) i with
    | some v => p_J (pc + 3) L (.long v :: st) w
    | none => none)
  | .iadd => p_i2 (fun x y => x + y) (pc + 1) L st w
  | .isub => p_i2 (fun x y => x - y) (pc + 1) L st w
  | .imul => p_i2 (fun x y => x * y) (pc + 1) L st w
  | .iand => p_i2 (fun x y => x &&& y) (pc + 1) L st w
  | .ior => p_i2 (fun x y => x ||| y) (pc + 1) L st w
  | .iushr => p_i2 (fun x y => (x.toUInt32 >>> (y.toUInt32 &&& Int32.toUInt32 31)).toInt32) (pc + 1) L st w
  | .ishl => p_i2 (fun x y => x <<< (y &&& 31)) (pc + 1) L st w
  | .ishr => p_i2 (fun x y => x >>> (y &&& 31)) (pc + 1) L st w
  | .idiv => p_i2z (fun x y => x / y) (pc + 1) L st w
  | .irem => p_i2z (fun x y => x - x / y * y) (pc + 1) L st w
  | .ineg => p_i1 (fun x => -x) (pc + 1) L st w
  | .ladd => p_l2 (fun x y => x + y) (pc + 1) L st w
  | .lsub => p_l2 (fun x y => x - y) (pc + 1) L st w
  | .lmul => p_l2 (fun x y => x * y) (pc + 1) L st w
  | .land => p_l2 (fun x y => x &&& y) (pc + 1) L st w
  | .ldiv => p_l2z (fun x y => x / y) (pc + 1) L st w
  | .lrem => p_l2z (fun x y => x - x / y * y) (pc + 1) L st w
  | .lneg => p_l1 (fun x => -x) (pc + 1) L st w
  | .lshl => p_lsh (fun x y => x <<< (y.toInt64 &&& 63)) (pc + 1) L st w
  | .lshr => p_lsh (fun x y => x >>> (y.toInt64 &&& 63)) (pc + 1) L st w
  | .lcmp => (match st with
    | .long y :: .long x :: s => p_J (pc + 1) L (.int (lg_cmp x y) :: s) w
    | _ => none)
  | .i2l => (match st with
    | .int x :: s => p_J (pc + 1) L (.long x.toInt64 :: s) w
    | _ => none)
  | .l2i => (match st with
    | .long x :: s => p_J (pc + 1) L (.int x.toInt32 :: s) w
    | _ => none)
  | .i2b => p_i1 (fun x => x.toInt8.toInt32) (pc + 1) L st w
  | .iinc k n => p_inc k n pc L st w
  | .dup => p_dup pc L st w
  | .dup2 => p_dup2 pc L st w
  | .pop => p_pop pc L st w
  | .goto off => p_gt mi pc off L st w
  | .if_icmp .eq off => p_b2 (fun x y => decide (x = y)) pc off L st w
  | .if_icmp .ne off => p_b2 (fun x y => decide (¬ x = y)) pc off L st w
  | .if_icmp .lt off => p_b2 (fun x y => decide (x < y)) pc off L st w
  | .if_icmp .ge off => p_b2 (fun x y => decide (y ≤ x)) pc off L st w
  | .if_icmp .gt off => p_b2 (fun x y => decide (y < x)) pc off L st w
  | .if_icmp .le off => p_b2 (fun x y => decide (x ≤ y)) pc off L st w
  | .ifCond .eq off => p_b1 (fun x => decide (x = 0)) pc off L st w
  | .ifCond .ne off => p_b1 (fun x => decide (¬ x = 0)) pc off L st w
  | .ifCond .lt off => p_b1 (fun x => decide (x < 0)) pc off L st w
  | .ifCond .ge off => p_b1 (fun x => decide (0 ≤ x)) pc off L st w
  | .ifCond .gt off => p_b1 (fun x => decide (0 < x)) pc off L st w
  | .ifCond .le off => p_b1 (fun x => decide (x ≤ 0)) pc off L st w
  | .getfield i => p_gf mi i pc L st w
  | .putfield i => p_pf mi i pc L st w
  | .iaload => p_ald scr 1 pc L st w
  | .laload => p_lald pc L st w
  | .baload => p_bald pc L st w
  | .iastore => p_iast pc L st w
  | .lastore => p_last pc L st w
  | .bastore => p_bast pc L st w
  | .arraylength => p_alen scr pc L st w
  | .invokevirtual i => p_iv true mi i pc L st w
  | .invokestatic i => p_iv false mi i pc L st w
  | .new i => p_nw mi i pc st w
  | .ireturn => p_irt mi st w
  | .lreturn => p_lrt mi st w
  | .return_ => p_vrt mi st w
  | .tableswitch d lo hi os => p_swt pc d lo hi os L st w
  | _ => none
def p_stp (scr : pX) (mi pc : Nat) (L st : List Value) (w : pW) : Option pS := match p_at mi pc with
  | some ins => p_ex scr mi pc ins L st w
  | none => none
/-- the locals with which a method begins -/
def p_ent (as : List Value) (n : Nat) : List Value := ((as.flatMap fun v => if v.category = 2 then [v, p_U] else [v]) ++ List.replicate n p_U).take n
/-- behind a callee -/
def p_run : Nat → pX → Nat → Nat → List Value → List Value → pW → Option pR
  | 0, _, _, _, _, _, _ => none
  | n + 1, scr, mi, pc, L, st, w => match p_stp scr mi pc L st w with
    | none => none
    | some (.inl r) => some r
    | some (.inr (.inl j)) => p_run n scr mi j.1 j.2.1 j.2.2.1 j.2.2.2
    | some (.inr (.inr q)) => match p_run n none q.1 0 (p_ent q.2.1 (p_ml q.1)) [] w with
      | none => none
      | some (.inl v, w1, k1) => (match p_run n scr mi (pc + 3) L (v.toList ++ q.2.2) w1 with
        | some (o, w2, k2) => some (o, w2, k1 + k2)
        | none => none)
      | some (.inr (.inl E), w1, k1) => (match p_hd mi pc E with
        | some h => some (.inl (some (.int h.2.2)), w1, k1)
        | none => if p_hh mi = [] then some (.inr (.inl E), w1, k1) else none)
      | some (.inr (.inr _), _, _) => none
