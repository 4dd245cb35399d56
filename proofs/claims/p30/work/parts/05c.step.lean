/-! ONE STEP OF THE MACHINE FOR ONE STEP OF THE PURE INTERPRETER -/
def p_ncT : List (String × String) := []
/-- what isn't the class's own: texts, two statics of Throwable, a link of a nest mate, which exceptions are castable to which -/
def p_xx (A : Nat → Prop) (U : State) (H : Heap) : Prop := (∀ q ∈ p_txT, ∃ sa, vk_R RX4 q.1 q.2 sa U) ∧ vx_Zq Bundle.tN "UNASSIGNED_STACK" Bundle.steD A U H ∧ vx_Zq Bundle.tN "SUPPRESSED_SENTINEL" Bundle.listD A U H ∧ (∀ w ∈ p_xB, va_Nw w U) ∧ va_Nw p_nst U ∧ ∀ E, E < 0 → ∀ F, F < 3 → E ≠ F → va_Nc (p_xn E) (p_xn F) U
def p_Cx (l : Launch) (R : Room) (p : Program) (s : State) (m : MethodId) (args : Array Value) (meth : Method) (c : Code) (mi : Nat) : Prop :=
  p.tables.exec = Jvm.exec ∧ c.code = p_b mi ∧ c.maxLocals = p_ml mi ∧ s.vm.findClass (p_nm (p_own mi)) = some m.cls ∧ (∀ w ∈ p_big, w.before args s = true) ∧ meth.locks = false ∧ meth.sig.returnType = p_rt mi ∧ p_rF mi ≤ R.frames ∧ p_rL mi ≤ R.locals ∧ l.stackTraces = false ∧ c.exceptionTable.toList = tableOf (p_hh mi)
def p_Wd (D : va_G) (ty : Nat → ClassId) (A : Nat → Prop) (s : State) : Prop := va_K D vwCl (p_tys ty) s ∧ (∀ q : Nat, s.heap.size ≤ q → A q) ∧ p_xx A s s.heap
def p_sc (scr : pX) (ad : Nat → Nat) (A : Nat → Prop) (s : State) : Prop := ∀ n xs, scr = some (n, xs) → va_X (ad 999) n xs s s.heap ∧ ad 999 < s.heap.size ∧ ¬ A (ad 999)
def p_K (p : Program) (l : Launch) (e : Env) (R : Room) (s : State) (m : MethodId) (args : Array Value) (below : List Frame) (meth : Method) (c : Code) (cells slots : Nat) (Q : State → Prop) (D : va_G) (ty : Nat → ClassId) (ad : Nat → Nat) (A : Nat → Prop) (mi pc : Nat) (L st : List Value) (w : pW) : Prop :=
  ∀ (ls : Array Slot) (H : Heap) (locs : List Loc), p_lh ad ls (p_ml mi) L → va_P D vwCl (p_ws ad ty w) H → va_D A (p_ws ad ty w) → va_S A s.heap H locs → W p l e R s m args below meth c H locs cells slots Q (F0 m pc ls (st.map (p_cv ad)))
theorem p_cl {c : Nat} (h : c < 5) : vwCl[c]? = some (p_nm c, p_TT c, p_NN c) := by
  match c, h with
  | 0, _ => rfl
  | 1, _ => rfl
  | 2, _ => rfl
  | 3, _ => rfl
  | 4, _ => rfl
  | c + 5, h => exact absurd h (by omega)
theorem p_obk : p_obs.all (fun d => match d with
    | .inl (t, n) => decide (t < 4) && decide (n ≤ 5000)
    | .inr (c, fs) => decide (c < 5) && decide (fs.length = p_NN c) && (List.range fs.length).all (fun k => match fs[k]? with
      | some none => decide ((p_TT c k).2.2.1 = "I") && ((p_TT c k).2.2.2 == false)
      | _ => true)) = true := by decide +kernel
theorem p_ob_cls {o c : Nat} {fs : List (Option Nat)} (h : p_ob o = some (.inr (c, fs))) : c < 5 ∧ fs.length = p_NN c ∧ ∀ k, fs[k]? = some none → (p_TT c k).2.2.1 = "I" ∧ (p_TT c k).2.2.2 = false := by
  have h1 := List.all_eq_true.mp p_obk _ (List.mem_of_getElem? h)
  simp only [Bool.and_eq_true, decide_eq_true_eq, List.all_eq_true] at h1
  refine ⟨h1.1.1, h1.1.2, fun k hk => ?_⟩
  have h2 := h1.2 k (List.mem_range.mpr (List.getElem?_eq_some_iff.mp hk).1)
  rw [hk] at h2
  simpa using h2
theorem p_ob_arr {o t n : Nat} (h : p_ob o = some (.inl (t, n))) : t < 4 := by
  have h1 := List.all_eq_true.mp p_obk _ (List.mem_of_getElem? h)
  simp only [Bool.and_eq_true, decide_eq_true_eq] at h1
  exact h1.1
theorem p_layc {c : Nat} (h : c < 5) : ∀ w ∈ u_ws (p_nm c) (p_TT c) (p_NN c), w ∈ p_big := by
  intro w hw
  have h1 := List.all_eq_true.mp p_k2 c (List.mem_range.mpr h)
  exact p_hb_big (List.all_eq_true.mp h1 w hw)
theorem p_tyc (c : Nat) : ∃ t0 : Nat → FieldType, (∀ k, k < p_NN c → parseFieldDescriptor (p_TT c k).2.2.1 = some (t0 k)) ∧ ∀ a, a < p_NN c → ∀ b, b < p_NN c → a ≠ b → (p_TT c a).2.1 ≠ (p_TT c b).2.1 := by
  unfold p_TT p_NN
  split
  · exact ⟨tyX0, tyX0_ok, nmX0⟩
  · exact ⟨tyX1, tyX1_ok, nmX1⟩
  · exact ⟨tyX2, tyX2_ok, nmX2⟩
  · exact ⟨tyX3, tyX3_ok, nmX3⟩
  · exact ⟨tyX4, tyX4_ok, nmX4⟩
  · exact ⟨tyX5, tyX5_ok, nmX5⟩
theorem p_fldk {mi idx ci k : Nat} (h : p_fld (p_own mi) idx = some (ci, k)) : Cond.fieldLink (p_nm (p_own mi)) idx (p_TT ci k).1 (p_TT ci k).2.1 (p_TT ci k).2.2.1 ∈ p_big ∧ k < p_NN ci := by
  have h1 := List.all_eq_true.mp p_k1 _ (p_lk h)
  simp only [Bool.and_eq_true, decide_eq_true_eq] at h1
  exact ⟨p_hb_big h1.1.1, h1.1.2⟩
theorem p_tys0 {ty : Nat → ClassId} : (p_tys ty)[0]? = some (ty 0, .byte) := rfl
theorem p_tys1 {ty : Nat → ClassId} : (p_tys ty)[1]? = some (ty 1, .int) := rfl
theorem p_tys2 {ty : Nat → ClassId} : (p_tys ty)[2]? = some (ty 2, .long) := rfl
theorem p_tys3 {ty : Nat → ClassId} : (p_tys ty)[3]? = some (ty 3, .boolean) := rfl
theorem p_cellA {ad : Nat → Nat} {ty : Nat → ClassId} {w : pW} {o t n : Nat} (h : p_ob o = some (.inl (t, n))) (ht : t ≠ 2) : (p_ws ad ty w)[o]? = some (ad o, .inl (ty t, n, .inl (w.2.2 o))) := by
  rw [p_ws_get (p_ob_lt h)]; unfold p_cell; rw [h]; simp [ht]
theorem p_cellJ {ad : Nat → Nat} {ty : Nat → ClassId} {w : pW} {o n : Nat} (h : p_ob o = some (.inl (2, n))) : (p_ws ad ty w)[o]? = some (ad o, .inl (ty 2, n, .inr (.inl (w.2.1 o)))) := by
  rw [p_ws_get (p_ob_lt h)]; unfold p_cell; rw [h]; simp
theorem p_cellO {ad : Nat → Nat} {ty : Nat → ClassId} {w : pW} {o c : Nat} {fs : List (Option Nat)} (h : p_ob o = some (.inr (c, fs))) : (p_ws ad ty w)[o]? = some (ad o, .inr (c, p_fl ad w o 0 fs)) := by
  rw [p_ws_get (p_ob_lt h)]; unfold p_cell; rw [h]
theorem p_xB_k : p_xB.all (fun w => match w with
    | .castable _ _ => true
    | .declares _ => true
    | _ => false) = true := by decide +kernel
theorem p_xB_kinds : ∀ w ∈ p_xB, (∃ X Y, w = Cond.castable X Y) ∨ ∃ x, w = Cond.declares x := by
  intro w hw
  have h := List.all_eq_true.mp p_xB_k w hw
  split at h
  · exact Or.inl ⟨_, _, rfl⟩
  · exact Or.inr ⟨_, rfl⟩
  · simp at h
theorem p_xB_on : ∀ w ∈ p_xB, w.onTables = true := by
  intro w hw
  rcases p_xB_kinds w hw with ⟨X, Y, rfl⟩ | ⟨x, rfl⟩ <;> rfl
theorem p_zipm {α β : Type} : ∀ (a : List α) (b : List β) {y : β}, b.length ≤ a.length → y ∈ b → ∃ x, (x, y) ∈ a.zip b
  | _, [], _, _, h => absurd h List.not_mem_nil
  | [], _ :: _, _, h, _ => absurd h (by simp)
  | x :: a, z :: b, y, h, hy => by
    rcases List.mem_cons.mp hy with rfl | hy
    · exact ⟨x, List.mem_cons_self⟩
    · obtain ⟨x1, h1⟩ := p_zipm a b (by simpa using h) hy
      exact ⟨x1, List.mem_cons_of_mem _ h1⟩
theorem p_ivk {mi idx : Nat} {q : Nat × Nat × Nat} (h : p_inv (p_own mi) idx = some q) : ∃ x, p_k5b x ((p_own mi, idx), q) = true := by
  obtain ⟨x, hx⟩ := p_zipm p_ivi p_invT p_k5l (p_lk h)
  exact ⟨x, List.all_eq_true.mp p_k5 _ hx⟩
theorem p_irt_no {mi : Nat} {st : List Value} {w : pW} {x : pJ ⊕ (Nat × List Value × List Value)} : ¬ p_irt mi st w = some (.inr x) := by
  unfold p_irt
  split
  · split
    · simp [p_D]
    · split <;> simp [p_D]
    · simp
  · simp
theorem p_lrt_no {mi : Nat} {st : List Value} {w : pW} {x : pJ ⊕ (Nat × List Value × List Value)} : ¬ p_lrt mi st w = some (.inr x) := by
  unfold p_lrt
  split
  · split <;> simp [p_D]
  · simp
theorem p_vrt_no {mi : Nat} {st : List Value} {w : pW} {x : pJ ⊕ (Nat × List Value × List Value)} : ¬ p_vrt mi st w = some (.inr x) := by
  unfold p_vrt
  split
  · split <;> simp [p_D]
  · simp
theorem p_nw_no {mi ik pc : Nat} {st : List Value} {w : pW} {x : pJ ⊕ (Nat × List Value × List Value)} : ¬ p_nw mi ik pc st w = some (.inr x) := by
  unfold p_nw
  split
  · split
    · split <;> simp [p_D]
    · simp
  · simp
section Steps
variable {p : Program} {l : Launch} {e : Env} {R : Room} {s : State} {m : MethodId} {args : Array Value} {below : List Frame} {meth : Method} {c : Code} {cells slots : Nat} {Q : State → Prop} {D : va_G} {ty : Nat → ClassId} {ad : Nat → Nat} {A : Nat → Prop} {scr : pX} {mi pc pc1 : Nat} {L L1 st st1 : List Value} {w w1 : pW}
set_option maxHeartbeats 8000000 in
set_option maxRecDepth 20000 in
theorem p_snd_jump (C : p_Cx l R p s m args meth c mi) (V : p_Wd D ty A s) (X : p_sc scr ad A s) (hc : cells ≤ R.cells) (hs : slots ≤ R.slots)
    (h : p_stp scr mi pc L st w = some (.inr (.inl (pc1, L1, st1, w1)))) (k : p_K p l e R s m args below meth c cells slots Q D ty ad A mi pc1 L1 st1 w1) : p_K p l e R s m args below meth c cells slots Q D ty ad A mi pc L st w := by
  obtain ⟨hx, hb, hml, hown, hts, hlk, hrt, hRF, hRL, hst, htab⟩ := C
  obtain ⟨hK, hA, hxx⟩ := V
  unfold p_stp at h
  cases hat : p_at mi pc with
  | none => rw [hat] at h; simp at h
  | some ins =>
    rw [hat] at h
    dsimp only at h
    have hd := p_dec hat
    intro ls H locs hl hP hD hS
    have hn := hl.2.1
    cases ins <;> first | (exact absurd h (show ¬ ((none : Option pS) = _) from fun z => by cases z)) | skip
    case iload i =>
      obtain ⟨x, hv, rfl, rfl, rfl, rfl⟩ := p_vlI h
      exact lv_iload hx hb hd (p_lh_at hl hv (by simp [p_U])) (k ls H locs hl hP hD hS)
    case iload_n i =>
      obtain ⟨x, hv, rfl, rfl, rfl, rfl⟩ := p_vlI h
      exact lv_iload_n hx hb hd rfl (p_lh_at hl hv (by simp [p_U])) (k ls H locs hl hP hD hS)
    case lload i =>
      obtain ⟨x, hv, rfl, rfl, rfl, rfl⟩ := p_vlJ h
      exact lv_lload hx hb hd (p_lh_at hl hv (by simp [p_U])) (k ls H locs hl hP hD hS)
    case lload_n i =>
      obtain ⟨x, hv, rfl, rfl, rfl, rfl⟩ := p_vlJ h
      exact lv_lload_n hx hb hd rfl (p_lh_at hl hv (by simp [p_U])) (k ls H locs hl hP hD hS)
    case aload i =>
      obtain ⟨x, hv, rfl, rfl, rfl, rfl⟩ := p_vlA h
      exact lv_aload hx hb hd (p_lh_at hl hv (by simp [p_U])) (k ls H locs hl hP hD hS)
    case aload_n i =>
      obtain ⟨x, hv, rfl, rfl, rfl, rfl⟩ := p_vlA h
      exact lv_aload_n hx hb hd rfl (p_lh_at hl hv (by simp [p_U])) (k ls H locs hl hP hD hS)
    case istore i =>
      obtain ⟨x, z, rfl, hi, rfl, rfl, rfl, rfl⟩ := p_vsI h
      rw [hl.1] at hi
      exact lv_istore hx hb hd (p_lh_has hl) hi rfl (fun ls1 h1 => k ls1 H locs (p_lh_stI hl h1) hP hD hS)
    case istore_n i =>
      obtain ⟨x, z, rfl, hi, rfl, rfl, rfl, rfl⟩ := p_vsI h
      rw [hl.1] at hi
      exact lv_istore_n hx hb hd rfl (p_lh_has hl) hi rfl (fun ls1 h1 => k ls1 H locs (p_lh_stI hl h1) hP hD hS)
    case lstore i =>
      obtain ⟨x, z, rfl, hi, rfl, rfl, rfl, rfl⟩ := p_vsJ h
      rw [hl.1] at hi
      exact lv_lstore hx hb hd (p_lh_has hl) hi rfl (fun ls1 h1 => k ls1 H locs (p_lh_stJ hl h1) hP hD hS)
    case lstore_n i =>
      obtain ⟨x, z, rfl, hi, rfl, rfl, rfl, rfl⟩ := p_vsJ h
      rw [hl.1] at hi
      exact lv_lstore_n hx hb hd rfl (p_lh_has hl) hi rfl (fun ls1 h1 => k ls1 H locs (p_lh_stJ hl h1) hP hD hS)
    case iconst n =>
      obtain ⟨rfl, rfl, rfl, rfl⟩ := p_vJ h
      exact lv_iconst hx hb hd rfl (k ls H locs hl hP hD hS)
    case bipush n =>
      obtain ⟨rfl, rfl, rfl, rfl⟩ := p_vJ h
      exact lv_bipush hx hb hd rfl (k ls H locs hl hP hD hS)
    case sipush n =>
      obtain ⟨rfl, rfl, rfl, rfl⟩ := p_vJ h
      exact lv_sipush hx hb hd rfl (k ls H locs hl hP hD hS)
    case lconst n =>
      obtain ⟨rfl, rfl, rfl, rfl⟩ := p_vJ h
      exact lv_lconst hx hb hd rfl (k ls H locs hl hP hD hS)
    case ldc i =>
      dsimp only [p_ex] at h
      split at h
      · next v hv =>
        obtain ⟨rfl, rfl, rfl, rfl⟩ := p_vJ h
        exact lv_ldc hx hb hown (hts _ (p_hb_big (List.all_eq_true.mp p_k3 _ (p_lk hv)))) hd (k ls H locs hl hP hD hS)
      · simp at h
    case ldc2_w i =>
      dsimp only [p_ex] at h
      split at h
      · next v hv =>
        obtain ⟨rfl, rfl, rfl, rfl⟩ := p_vJ h
        exact lv_ldc2 hx hb hown (hts _ (p_hb_big (List.all_eq_true.mp p_k4 _ (p_lk hv)))) hd (k ls H locs hl hP hD hS)
      · simp at h
    case iadd =>
      obtain ⟨x, y, z, rfl, rfl, rfl, rfl, rfl⟩ := p_vi2 h
      exact lv_iadd hx hb hd (k ls H locs hl hP hD hS)
    case isub =>
      obtain ⟨x, y, z, rfl, rfl, rfl, rfl, rfl⟩ := p_vi2 h
      exact lv_isub hx hb hd (k ls H locs hl hP hD hS)
    case imul =>
      obtain ⟨x, y, z, rfl, rfl, rfl, rfl, rfl⟩ := p_vi2 h
      exact lv_imul hx hb hd (k ls H locs hl hP hD hS)
    case iand =>
      obtain ⟨x, y, z, rfl, rfl, rfl, rfl, rfl⟩ := p_vi2 h
      exact lv_iand hx hb hd (k ls H locs hl hP hD hS)
    case ior =>
      obtain ⟨x, y, z, rfl, rfl, rfl, rfl, rfl⟩ := p_vi2 h
      exact lv_ior hx hb hd (k ls H locs hl hP hD hS)
    case iushr =>
      obtain ⟨x, y, z, rfl, rfl, rfl, rfl, rfl⟩ := p_vi2 h
      exact lv_iushr hx hb hd rfl (k ls H locs hl hP hD hS)
    case ishl =>
      obtain ⟨x, y, z, rfl, rfl, rfl, rfl, rfl⟩ := p_vi2 h
      exact lv_ishl hx hb hd (k ls H locs hl hP hD hS)
    case ishr =>
      obtain ⟨x, y, z, rfl, rfl, rfl, rfl, rfl⟩ := p_vi2 h
      exact lv_ishr hx hb hd (k ls H locs hl hP hD hS)
    case idiv =>
      obtain ⟨x, y, z, rfl, hy, rfl, rfl, rfl, rfl⟩ := p_vi2z h
      exact lv_idiv hx hb hd hy (k ls H locs hl hP hD hS)
    case irem =>
      obtain ⟨x, y, z, rfl, hy, rfl, rfl, rfl, rfl⟩ := p_vi2z h
      exact lv_irem hx hb hd hy (k ls H locs hl hP hD hS)
    case ineg =>
      obtain ⟨x, z, rfl, rfl, rfl, rfl, rfl⟩ := p_vi1 h
      exact lv_ineg hx hb hd (k ls H locs hl hP hD hS)
    case i2b =>
      obtain ⟨x, z, rfl, rfl, rfl, rfl, rfl⟩ := p_vi1 h
      exact lv_i2b hx hb hd rfl (k ls H locs hl hP hD hS)
    case ladd =>
      obtain ⟨x, y, z, rfl, rfl, rfl, rfl, rfl⟩ := p_vl2 h
      exact lv_ladd hx hb hd (k ls H locs hl hP hD hS)
    case lsub =>
      obtain ⟨x, y, z, rfl, rfl, rfl, rfl, rfl⟩ := p_vl2 h
      exact lv_lsub hx hb hd (k ls H locs hl hP hD hS)
    case lmul =>
      obtain ⟨x, y, z, rfl, rfl, rfl, rfl, rfl⟩ := p_vl2 h
      exact lv_lmul hx hb hd (k ls H locs hl hP hD hS)
    case land =>
      obtain ⟨x, y, z, rfl, rfl, rfl, rfl, rfl⟩ := p_vl2 h
      exact lv_land hx hb hd (k ls H locs hl hP hD hS)
    case ldiv =>
      obtain ⟨x, y, z, rfl, hy, rfl, rfl, rfl, rfl⟩ := p_vl2z h
      exact lv_ldiv hx hb hd hy (k ls H locs hl hP hD hS)
    case lrem =>
      obtain ⟨x, y, z, rfl, hy, rfl, rfl, rfl, rfl⟩ := p_vl2z h
      exact lv_lrem hx hb hd hy (k ls H locs hl hP hD hS)
    case lneg =>
      obtain ⟨x, z, rfl, rfl, rfl, rfl, rfl⟩ := p_vl1 h
      exact lv_lneg hx hb hd (k ls H locs hl hP hD hS)
    case lshl =>
      obtain ⟨x, y, z, rfl, rfl, rfl, rfl, rfl⟩ := p_vlsh h
      exact lv_lshl hx hb hd rfl (k ls H locs hl hP hD hS)
    case lshr =>
      obtain ⟨x, y, z, rfl, rfl, rfl, rfl, rfl⟩ := p_vlsh h
      exact lv_lshr hx hb hd rfl (k ls H locs hl hP hD hS)
    case lcmp =>
      dsimp only [p_ex] at h
      split at h
      · next y x z =>
        obtain ⟨rfl, rfl, rfl, rfl⟩ := p_vJ h
        exact W.lcmp hx hb hd (k ls H locs hl hP hD hS)
      · simp at h
    case i2l =>
      dsimp only [p_ex] at h
      split at h
      · next x z =>
        obtain ⟨rfl, rfl, rfl, rfl⟩ := p_vJ h
        exact lv_i2l hx hb hd rfl (k ls H locs hl hP hD hS)
      · simp at h
    case l2i =>
      dsimp only [p_ex] at h
      split at h
      · next x z =>
        obtain ⟨rfl, rfl, rfl, rfl⟩ := p_vJ h
        exact lv_l2i hx hb hd rfl (k ls H locs hl hP hD hS)
      · simp at h
    case iinc i n =>
      obtain ⟨x, hv, rfl, rfl, rfl, rfl⟩ := p_vinc h
      obtain ⟨j, hj⟩ := List.getElem?_of_mem (p_lv_mem (ad := ad) (L := L) (q := (i, .int x)).mpr ⟨_, hv, by simp [p_U], rfl⟩)
      exact lv_iinc hx hb hd (p_lh_has hl) hj rfl (by rw [← hl.1]; exact (List.getElem?_eq_some_iff.mp hv).1) rfl (fun ls1 h1 => k ls1 H locs (p_lh_set hl hv h1) hP hD hS)
    case dup =>
      obtain ⟨v, z, rfl, hv, rfl, rfl, rfl, rfl⟩ := p_vdup h
      exact lv_dup hx hb hd (p_cv_cat.trans hv) (k ls H locs hl hP hD hS)
    case dup2 =>
      obtain ⟨v, u, z, rfl, hv, hu, rfl, rfl, rfl, rfl⟩ := p_vdup2 h
      exact lv_dup2_11 hx hb hd (p_cv_cat.trans hv) (p_cv_cat.trans hu) (k ls H locs hl hP hD hS)
    case pop =>
      obtain ⟨v, z, rfl, hv, rfl, rfl, rfl, rfl⟩ := p_vpop h
      exact lv_pop hx hb hd (p_cv_cat.trans hv) (k ls H locs hl hP hD hS)
    case goto off =>
      obtain ⟨ht, rfl, rfl, rfl, rfl⟩ := p_vgt h
      exact lv_goto hx hb hd ht (k ls H locs hl hP hD hS)
    case if_icmp cnd off =>
      cases cnd
      case eq =>
        obtain ⟨x, y, z, rfl, ht, hq, rfl, rfl, rfl⟩ := p_vb2 h
        refine lv_icmp_eq hx hb hd ht (fun hz => ?_) (fun hz => ?_)
        · rw [show pc1 = p_tg pc off by rw [hq]; simp [hz]] at k
          exact k ls H locs hl hP hD hS
        · rw [show pc1 = pc + 3 by rw [hq]; simp [hz]] at k
          exact k ls H locs hl hP hD hS
      case ne =>
        obtain ⟨x, y, z, rfl, ht, hq, rfl, rfl, rfl⟩ := p_vb2 h
        refine lv_icmp_ne hx hb hd ht (fun hz => ?_) (fun hz => ?_)
        · rw [show pc1 = p_tg pc off by rw [hq]; simp [hz]] at k
          exact k ls H locs hl hP hD hS
        · rw [show pc1 = pc + 3 by rw [hq]; simp [hz]] at k
          exact k ls H locs hl hP hD hS
      case lt =>
        obtain ⟨x, y, z, rfl, ht, hq, rfl, rfl, rfl⟩ := p_vb2 h
        refine lv_icmp_lt hx hb hd ht (fun hz => ?_) (fun hz => ?_)
        · rw [show pc1 = p_tg pc off by rw [hq]; simp [hz]] at k
          exact k ls H locs hl hP hD hS
        · rw [show pc1 = pc + 3 by rw [hq]; simp [hz]] at k
          exact k ls H locs hl hP hD hS
      case ge =>
        obtain ⟨x, y, z, rfl, ht, hq, rfl, rfl, rfl⟩ := p_vb2 h
        refine lv_icmp_ge hx hb hd ht (fun hz => ?_) (fun hz => ?_)
        · rw [show pc1 = p_tg pc off by rw [hq]; simp [hz]] at k
          exact k ls H locs hl hP hD hS
        · rw [show pc1 = pc + 3 by rw [hq]; simp [hz]] at k
          exact k ls H locs hl hP hD hS
      case gt =>
        obtain ⟨x, y, z, rfl, ht, hq, rfl, rfl, rfl⟩ := p_vb2 h
        refine lv_icmp_gt hx hb hd ht (fun hz => ?_) (fun hz => ?_)
        · rw [show pc1 = p_tg pc off by rw [hq]; simp [hz]] at k
          exact k ls H locs hl hP hD hS
        · rw [show pc1 = pc + 3 by rw [hq]; simp [hz]] at k
          exact k ls H locs hl hP hD hS
      case le =>
        obtain ⟨x, y, z, rfl, ht, hq, rfl, rfl, rfl⟩ := p_vb2 h
        refine lv_icmp_le hx hb hd ht (fun hz => ?_) (fun hz => ?_)
        · rw [show pc1 = p_tg pc off by rw [hq]; simp [hz]] at k
          exact k ls H locs hl hP hD hS
        · rw [show pc1 = pc + 3 by rw [hq]; simp [hz]] at k
          exact k ls H locs hl hP hD hS
    case ifCond cnd off =>
      cases cnd
      case eq =>
        obtain ⟨x, z, rfl, ht, hq, rfl, rfl, rfl⟩ := p_vb1 h
        refine lv_if_eq hx hb hd ht (fun hz => ?_) (fun hz => ?_)
        · rw [show pc1 = p_tg pc off by rw [hq]; simp [hz]] at k
          exact k ls H locs hl hP hD hS
        · rw [show pc1 = pc + 3 by rw [hq]; simp [hz]] at k
          exact k ls H locs hl hP hD hS
      case ne =>
        obtain ⟨x, z, rfl, ht, hq, rfl, rfl, rfl⟩ := p_vb1 h
        refine lv_if_ne hx hb hd ht (fun hz => ?_) (fun hz => ?_)
        · rw [show pc1 = p_tg pc off by rw [hq]; simp [hz]] at k
          exact k ls H locs hl hP hD hS
        · rw [show pc1 = pc + 3 by rw [hq]; simp [hz]] at k
          exact k ls H locs hl hP hD hS
      case lt =>
        obtain ⟨x, z, rfl, ht, hq, rfl, rfl, rfl⟩ := p_vb1 h
        refine lv_if_lt hx hb hd ht (fun hz => ?_) (fun hz => ?_)
        · rw [show pc1 = p_tg pc off by rw [hq]; simp [hz]] at k
          exact k ls H locs hl hP hD hS
        · rw [show pc1 = pc + 3 by rw [hq]; simp [hz]] at k
          exact k ls H locs hl hP hD hS
      case ge =>
        obtain ⟨x, z, rfl, ht, hq, rfl, rfl, rfl⟩ := p_vb1 h
        refine lv_if_ge hx hb hd ht (fun hz => ?_) (fun hz => ?_)
        · rw [show pc1 = p_tg pc off by rw [hq]; simp [hz]] at k
          exact k ls H locs hl hP hD hS
        · rw [show pc1 = pc + 3 by rw [hq]; simp [hz]] at k
          exact k ls H locs hl hP hD hS
      case gt =>
        obtain ⟨x, z, rfl, ht, hq, rfl, rfl, rfl⟩ := p_vb1 h
        refine lv_if_gt hx hb hd ht (fun hz => ?_) (fun hz => ?_)
        · rw [show pc1 = p_tg pc off by rw [hq]; simp [hz]] at k
          exact k ls H locs hl hP hD hS
        · rw [show pc1 = pc + 3 by rw [hq]; simp [hz]] at k
          exact k ls H locs hl hP hD hS
      case le =>
        obtain ⟨x, z, rfl, ht, hq, rfl, rfl, rfl⟩ := p_vb1 h
        refine lv_if_le hx hb hd ht (fun hz => ?_) (fun hz => ?_)
        · rw [show pc1 = p_tg pc off by rw [hq]; simp [hz]] at k
          exact k ls H locs hl hP hD hS
        · rw [show pc1 = pc + 3 by rw [hq]; simp [hz]] at k
          exact k ls H locs hl hP hD hS
    case getfield i =>
      obtain ⟨o, z, ci, kk, fs, f, rfl, hf, ho, hk, rfl, rfl, rfl, rfl⟩ := p_vgf h
      obtain ⟨hc6, hfl, -⟩ := p_ob_cls ho
      obtain ⟨hfw, hkN⟩ := p_fldk hf
      exact va_get hx hb hts (p_layc hc6) hown hK hP o (p_cellO ho) (p_cl hc6) kk hkN (hts _ hfw) (fun _ h9 => h9) (by rw [p_fl_get, hk, Nat.zero_add]; rfl) hd (k ls H locs hl hP hD hS)
    case putfield i =>
      obtain ⟨o, z, ci, kk, fs, v, rfl, hf, ho, hk, rfl, rfl, rfl, rfl⟩ := p_vpf h
      obtain ⟨hc6, hfl, hff⟩ := p_ob_cls ho
      obtain ⟨hfw, hkN⟩ := p_fldk hf
      obtain ⟨t0, ht0, hnm⟩ := p_tyc ci
      exact va_put (ty := .int) hx hb hts (p_layc hc6) t0 ht0 hnm hown hK hP hD hS o (p_cellO ho) (p_cl hc6) kk hkN (hts _ hfw) (fun _ h9 => h9) (hff kk hk).2 (by rw [(hff kk hk).1]; rfl) rfl rfl (by rw [p_fl_len]; exact (List.getElem?_eq_some_iff.mp hk).1) hd (fun H1 locs1 hP1 hD1 hS1 => k ls H1 locs1 hl (by rw [← p_w_putf ho hk]; exact hP1) (p_wsD hD) hS1)
    case iaload =>
      obtain ⟨o, i, z, rfl, rfl, rfl, rfl, hh⟩ := p_vald h
      rcases hh with ⟨n, ho, hi, rfl⟩ | ⟨n, xs, rfl, rfl, -, hi, rfl⟩
      · exact va_iald hx hb hK hP o 1 (p_cellA ho (by decide)) p_tys1 hi hd (k ls H locs hl hP hD hS)
      · obtain ⟨hX1, hX2, hX3⟩ := X n xs rfl
        exact va_sld hx hb hX1 hX2 hX3 hS hi hd (k ls H locs hl hP hD hS)
    case arraylength =>
      obtain ⟨o, z, rfl, rfl, rfl, rfl, hh⟩ := p_valen h
      rcases hh with ⟨t, n, ho, rfl⟩ | ⟨n, xs, rfl, rfl, rfl⟩
      · have h4 := p_ob_arr ho
        by_cases ht : t = 2
        · subst ht
          exact va_alen hx hb hK hP o 2 (p_cellJ ho) p_tys2 rfl hd (k ls H locs hl hP hD hS)
        · match t, h4, ht, ho with
          | 0, _, _, ho => exact va_alen hx hb hK hP o 0 (p_cellA ho (by decide)) p_tys0 rfl hd (k ls H locs hl hP hD hS)
          | 1, _, _, ho => exact va_alen hx hb hK hP o 1 (p_cellA ho (by decide)) p_tys1 rfl hd (k ls H locs hl hP hD hS)
          | 3, _, _, ho => exact va_alen hx hb hK hP o 3 (p_cellA ho (by decide)) p_tys3 rfl hd (k ls H locs hl hP hD hS)
      · obtain ⟨hX1, hX2, hX3⟩ := X n xs rfl
        exact va_slen hx hb hX1 hX2 hX3 hS hd (k ls H locs hl hP hD hS)
    case laload =>
      obtain ⟨o, i, z, n, rfl, ho, hi, rfl, rfl, rfl, rfl⟩ := p_vlald h
      exact va_lald hx hb hK hP o 2 (p_cellJ ho) p_tys2 hi hd (k ls H locs hl hP hD hS)
    case baload =>
      obtain ⟨o, i, z, t, n, rfl, ho, ht, hi, rfl, rfl, rfl, rfl⟩ := p_vbald h
      rcases ht with rfl | rfl
      · exact va_bald hx hb hK hP o 0 (p_cellA ho (by decide)) p_tys0 hi hd (k ls H locs hl hP hD hS)
      · exact va_zald hx hb hK hP o 3 (p_cellA ho (by decide)) p_tys3 hi hd (k ls H locs hl hP hD hS)
    case bastore =>
      obtain ⟨o, i, x, z, t, n, rfl, ho, ht, hi, rfl, rfl, rfl, rfl⟩ := p_vbast h
      rcases ht with rfl | rfl
      · exact va_bast hx hb hK hP hD hS o 0 (p_cellA ho (by decide)) p_tys0 hi hd (fun H1 locs1 hP1 hD1 hS1 => k ls H1 locs1 hl (by rw [← p_w_iast ho (by decide)]; exact hP1) (p_wsD hD) hS1)
      · exact va_zast hx hb hK hP hD hS o 3 (p_cellA ho (by decide)) p_tys3 hi hd (fun H1 locs1 hP1 hD1 hS1 => k ls H1 locs1 hl (by rw [← p_w_iast ho (by decide)]; exact hP1) (p_wsD hD) hS1)
    case iastore =>
      obtain ⟨o, i, x, z, n, rfl, ho, hi, rfl, rfl, rfl, rfl⟩ := p_viast h
      exact va_iast hx hb hK hP hD hS o 1 (p_cellA ho (by decide)) p_tys1 hi hd (fun H1 locs1 hP1 hD1 hS1 => k ls H1 locs1 hl (by rw [← p_w_iast ho (by decide)]; exact hP1) (p_wsD hD) hS1)
    case lastore =>
      obtain ⟨o, i, x, z, n, rfl, ho, hi, rfl, rfl, rfl, rfl⟩ := p_vlast h
      exact va_last hx hb hK hP hD hS o 2 (p_cellJ ho) p_tys2 hi hd (fun H1 locs1 hP1 hD1 hS1 => k ls H1 locs1 hl (by rw [← p_w_last ho]; exact hP1) (p_wsD hD) hS1)
    case tableswitch d lo hi os =>
      obtain ⟨x, z, rfl, rfl, rfl, rfl, hh⟩ := p_vswt h
      rcases hh with ⟨h1, h2⟩ | ⟨h1, h2, off, h3, h4⟩
      · exact lv_tableOut hx hb hd h1 h2 (k ls H locs hl hP hD hS)
      · exact lv_tableIn hx hb hd h1 h2 h3 h4 (k ls H locs hl hP hD hS)
    case invokevirtual i =>
      exact absurd (p_viv h).1 (by decide)
    case invokestatic i =>
      obtain ⟨-, hmk, rfl, rfl, rfl, hh⟩ := p_viv h
      simp only [p_mok, Bool.and_eq_true, decide_eq_true_eq] at hmk
      obtain ⟨s1, s4⟩ := p_k7
      have hcs : ∀ z : List Value, ((z.map (p_cv ad)).map fun v => v.category).sum = p_cs z := by
        intro z
        induction z with
        | nil => rfl
        | cons a z ih =>
          simp only [List.map_cons, List.sum_cons, p_cs] at ih ⊢
          rw [ih, p_cv_cat]
      rcases hh with ⟨x, z, n, hv, rfl, hz, rfl⟩ | ⟨x, y, z, n, hv, rfl, hz, rfl⟩ | ⟨x, y, z, mj, n, hv, h0, h1, rfl, hz, rfl⟩
      · have hw := p_ivk hv
        simp only [p_k5b, if_true] at hw
        obtain ⟨q9, hw⟩ := hw
        exact va_mabs_long hx hb (by rw [hml]; exact hn.symm) hown (hts _ (p_hbi_big hw)) (hts _ (p_hb_big s1)) (hts _ (p_hb_big s4)) (hts _ p_k8_abs_long) (by omega) (by rw [hcs]; omega) hc hs hd (k ls H locs hl hP hD hS)
      · have hw := p_ivk hv
        simp [p_k5b] at hw
      · have hw := p_ivk hv
        simp [p_k5b, h0] at hw
    case ireturn => exact absurd h p_irt_no
    case lreturn => exact absurd h p_lrt_no
    case return_ => exact absurd h p_vrt_no
    case new i => exact absurd h p_nw_no
end Steps
