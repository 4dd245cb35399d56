section
-- ===== PART A: goes FIRST, ahead of the names: the tables' words, and 'selects' of the private methods out of them =====
/-- a private method of a class that the tables say can be made, by its rows of tables_1 -/
def lw_okq (q : MethodName × Nat) : Prop := (q.1.cls ≠ "java/lang/invoke/MethodHandle" ∧ q.1.cls ≠ "java/lang/invoke/VarHandle") ∧ Cond.instantiable q.1.cls q.2 ∈ tables_1 ∧ Cond.privateMethod q.1 ∈ tables_1 ∧ Cond.instanceMethod q.1 ∈ tables_1
theorem lw_p0 : lw_okq (⟨"java/lang/Throwable", "fillInStackTrace", "(I)Ljava/lang/Throwable;"⟩, 6) := ⟨⟨by decide +kernel, by decide +kernel⟩, List.mem_of_getElem? (i := 179) (by decide +kernel), List.mem_of_getElem? (i := 177) (by decide +kernel), List.mem_of_getElem? (i := 178) (by decide +kernel)⟩
theorem lw_p1 : lw_okq (⟨"LiftingWorkshop", "requireUnsplitRoot", "()V"⟩, 8) := ⟨⟨by decide +kernel, by decide +kernel⟩, List.mem_of_getElem? (i := 14) (by decide +kernel), List.mem_of_getElem? (i := 233) (by decide +kernel), List.mem_of_getElem? (i := 234) (by decide +kernel)⟩
theorem lw_p2 : lw_okq (⟨"LiftingWorkshop", "requirePlaceInSignal", "(I)V"⟩, 8) := ⟨⟨by decide +kernel, by decide +kernel⟩, List.mem_of_getElem? (i := 14) (by decide +kernel), List.mem_of_getElem? (i := 270) (by decide +kernel), List.mem_of_getElem? (i := 271) (by decide +kernel)⟩
theorem lw_p3 : lw_okq (⟨"LiftingWorkshop", "requirePlaceBelow", "(II)V"⟩, 8) := ⟨⟨by decide +kernel, by decide +kernel⟩, List.mem_of_getElem? (i := 14) (by decide +kernel), List.mem_of_getElem? (i := 274) (by decide +kernel), List.mem_of_getElem? (i := 275) (by decide +kernel)⟩
theorem lw_p4 : lw_okq (⟨"LiftingWorkshop", "requireNode", "(I)V"⟩, 8) := ⟨⟨by decide +kernel, by decide +kernel⟩, List.mem_of_getElem? (i := 14) (by decide +kernel), List.mem_of_getElem? (i := 316) (by decide +kernel), List.mem_of_getElem? (i := 317) (by decide +kernel)⟩
theorem lw_p5 : lw_okq (⟨"LiftingWorkshop", "requireLeaf", "(I)V"⟩, 8) := ⟨⟨by decide +kernel, by decide +kernel⟩, List.mem_of_getElem? (i := 14) (by decide +kernel), List.mem_of_getElem? (i := 325) (by decide +kernel), List.mem_of_getElem? (i := 326) (by decide +kernel)⟩
theorem lw_p6 : lw_okq (⟨"LiftingWorkshop", "splitLeaf", "(I)V"⟩, 8) := ⟨⟨by decide +kernel, by decide +kernel⟩, List.mem_of_getElem? (i := 14) (by decide +kernel), List.mem_of_getElem? (i := 358) (by decide +kernel), List.mem_of_getElem? (i := 359) (by decide +kernel)⟩
theorem lw_p7 : lw_okq (⟨"LiftingWorkshop$Lifting", "steps", "()I"⟩, 2) := ⟨⟨by decide +kernel, by decide +kernel⟩, List.mem_of_getElem? (i := 36) (by decide +kernel), List.mem_of_getElem? (i := 373) (by decide +kernel), List.mem_of_getElem? (i := 374) (by decide +kernel)⟩
theorem lw_p8 : lw_okq (⟨"LiftingWorkshop$Lifting", "lift", "(LLiftingWorkshop$Row;IIII)V"⟩, 2) := ⟨⟨by decide +kernel, by decide +kernel⟩, List.mem_of_getElem? (i := 36) (by decide +kernel), List.mem_of_getElem? (i := 377) (by decide +kernel), List.mem_of_getElem? (i := 378) (by decide +kernel)⟩
theorem lw_p9 : lw_okq (⟨"LiftingWorkshop$Lifting", "oddChange", "(IJJ)J"⟩, 2) := ⟨⟨by decide +kernel, by decide +kernel⟩, List.mem_of_getElem? (i := 36) (by decide +kernel), List.mem_of_getElem? (i := 381) (by decide +kernel), List.mem_of_getElem? (i := 382) (by decide +kernel)⟩
theorem lw_p10 : lw_okq (⟨"LiftingWorkshop$Lifting", "evenChange", "(IJJ)J"⟩, 2) := ⟨⟨by decide +kernel, by decide +kernel⟩, List.mem_of_getElem? (i := 36) (by decide +kernel), List.mem_of_getElem? (i := 388) (by decide +kernel), List.mem_of_getElem? (i := 389) (by decide +kernel)⟩
theorem lw_p11 : lw_okq (⟨"LiftingWorkshop", "branchCost", "(I)I"⟩, 8) := ⟨⟨by decide +kernel, by decide +kernel⟩, List.mem_of_getElem? (i := 14) (by decide +kernel), List.mem_of_getElem? (i := 428) (by decide +kernel), List.mem_of_getElem? (i := 429) (by decide +kernel)⟩
theorem lw_p12 : lw_okq (⟨"LiftingWorkshop", "gatherSamples", "()V"⟩, 8) := ⟨⟨by decide +kernel, by decide +kernel⟩, List.mem_of_getElem? (i := 14) (by decide +kernel), List.mem_of_getElem? (i := 449) (by decide +kernel), List.mem_of_getElem? (i := 450) (by decide +kernel)⟩
theorem lw_p13 : lw_okq (⟨"LiftingWorkshop", "uniteBranch", "(LLiftingWorkshop$Row;I)I"⟩, 8) := ⟨⟨by decide +kernel, by decide +kernel⟩, List.mem_of_getElem? (i := 14) (by decide +kernel), List.mem_of_getElem? (i := 454) (by decide +kernel), List.mem_of_getElem? (i := 455) (by decide +kernel)⟩
theorem lw_p14 : lw_okq (⟨"LiftingWorkshop", "joinBranch", "(I)I"⟩, 8) := ⟨⟨by decide +kernel, by decide +kernel⟩, List.mem_of_getElem? (i := 14) (by decide +kernel), List.mem_of_getElem? (i := 468) (by decide +kernel), List.mem_of_getElem? (i := 469) (by decide +kernel)⟩
theorem lw_p15 : lw_okq (⟨"LiftingWorkshop", "splitNodesBelow", "(I)V"⟩, 8) := ⟨⟨by decide +kernel, by decide +kernel⟩, List.mem_of_getElem? (i := 14) (by decide +kernel), List.mem_of_getElem? (i := 478) (by decide +kernel), List.mem_of_getElem? (i := 479) (by decide +kernel)⟩
def lw_privs_1 : List (MethodName × Nat) := [(⟨"java/lang/Throwable", "fillInStackTrace", "(I)Ljava/lang/Throwable;"⟩, 6), (⟨"LiftingWorkshop", "requireUnsplitRoot", "()V"⟩, 8), (⟨"LiftingWorkshop", "requirePlaceInSignal", "(I)V"⟩, 8), (⟨"LiftingWorkshop", "requirePlaceBelow", "(II)V"⟩, 8), (⟨"LiftingWorkshop", "requireNode", "(I)V"⟩, 8), (⟨"LiftingWorkshop", "requireLeaf", "(I)V"⟩, 8), (⟨"LiftingWorkshop", "splitLeaf", "(I)V"⟩, 8), (⟨"LiftingWorkshop$Lifting", "steps", "()I"⟩, 2), (⟨"LiftingWorkshop$Lifting", "lift", "(LLiftingWorkshop$Row;IIII)V"⟩, 2), (⟨"LiftingWorkshop$Lifting", "oddChange", "(IJJ)J"⟩, 2), (⟨"LiftingWorkshop$Lifting", "evenChange", "(IJJ)J"⟩, 2), (⟨"LiftingWorkshop", "branchCost", "(I)I"⟩, 8), (⟨"LiftingWorkshop", "gatherSamples", "()V"⟩, 8), (⟨"LiftingWorkshop", "uniteBranch", "(LLiftingWorkshop$Row;I)I"⟩, 8), (⟨"LiftingWorkshop", "joinBranch", "(I)I"⟩, 8), (⟨"LiftingWorkshop", "splitNodesBelow", "(I)V"⟩, 8)]
theorem lw_r1 : ∀ q ∈ lw_privs_1, lw_okq q := List.forall_mem_cons.mpr ⟨lw_p0, List.forall_mem_cons.mpr ⟨lw_p1, List.forall_mem_cons.mpr ⟨lw_p2, List.forall_mem_cons.mpr ⟨lw_p3, List.forall_mem_cons.mpr ⟨lw_p4, List.forall_mem_cons.mpr ⟨lw_p5, List.forall_mem_cons.mpr ⟨lw_p6, List.forall_mem_cons.mpr ⟨lw_p7, List.forall_mem_cons.mpr ⟨lw_p8, List.forall_mem_cons.mpr ⟨lw_p9, List.forall_mem_cons.mpr ⟨lw_p10, List.forall_mem_cons.mpr ⟨lw_p11, List.forall_mem_cons.mpr ⟨lw_p12, List.forall_mem_cons.mpr ⟨lw_p13, List.forall_mem_cons.mpr ⟨lw_p14, List.forall_mem_cons.mpr ⟨lw_p15, fun _ h => absurd h List.not_mem_nil⟩⟩⟩⟩⟩⟩⟩⟩⟩⟩⟩⟩⟩⟩⟩⟩
theorem lw_p16 : lw_okq (⟨"LiftingWorkshop", "joinWhereLeafCostsNoMore", "()V"⟩, 8) := ⟨⟨by decide +kernel, by decide +kernel⟩, List.mem_of_getElem? (i := 14) (by decide +kernel), List.mem_of_getElem? (i := 482) (by decide +kernel), List.mem_of_getElem? (i := 483) (by decide +kernel)⟩
def lw_privs_2 : List (MethodName × Nat) := [(⟨"LiftingWorkshop", "joinWhereLeafCostsNoMore", "()V"⟩, 8)]
theorem lw_r2 : ∀ q ∈ lw_privs_2, lw_okq q := List.forall_mem_cons.mpr ⟨lw_p16, fun _ h => absurd h List.not_mem_nil⟩
def lw_privs : List (MethodName × Nat) := lw_privs_1 ++ (lw_privs_2)
def lw_tbl : List Cond := k2_sels lw_privs ++ tables_1
theorem lw_privs_ok : ∀ q ∈ lw_privs, lw_okq q := by
  show ∀ q ∈ lw_privs_1 ++ (lw_privs_2), lw_okq q
  exact List.forall_mem_append.mpr ⟨lw_r1, lw_r2⟩

/-! ===== BEGIN words of one list among another's, by their places ===== -/
theorem goodIn_r {big : List Cond} (ws : List Cond) (ps : List Nat) (hp : ws = ps.filterMap (fun i => big[i]?)) (h : ws.all goodWord = true) : GoodIn big ws := by
  intro w hw
  have h1 := List.all_eq_true.mp h w hw
  rw [hp] at hw
  obtain ⟨i, -, hi⟩ := List.mem_filterMap.mp hw
  have hm : w ∈ big := by first | exact List.mem_of_getElem? hi | exact List.getElem?_mem hi
  exact ⟨hm, good_of_word h1⟩
theorem goodIn_app {big a b : List Cond} (ha : GoodIn big a) (hb : GoodIn big b) : GoodIn big (a ++ b) := fun w h => (List.mem_append.mp h).elim (ha w) (hb w)
theorem goodIn_ca {big a b : List Cond} {c : Cond} (ha : GoodIn big (c :: a)) (hb : GoodIn big b) : GoodIn big (c :: (a ++ b)) := fun w h => (List.mem_cons.mp h).elim (fun e => ha w (List.mem_cons.mpr (Or.inl e))) (fun h => (List.mem_append.mp h).elim (fun h => ha w (List.mem_cons.mpr (Or.inr h))) (hb w))
theorem goodIn_sub {big ws : List Cond} (hm : ∀ w ∈ ws, w ∈ big) (h : ws.all goodWord = true) : GoodIn big ws := fun w hw => ⟨hm w hw, good_of_word (List.all_eq_true.mp h w hw)⟩
/-! ===== END ===== -/

/-! ===== BEGIN exceptions that leave a method, and their catching by the caller (launches without stack traces) ===== -/
section VXA
/-! The laws vx_back, vx_callV, vx_callS, vx_callSW, vx_throw0, vx_throwS follow proofs of the library, with one case more: JvmDerived/Free/Laws.lean (Back.of_free), Shelf42/LK1.lean (callV, callS), Shelf/KitTraced.lean (throwNew0V, throwNewS). -/
/-- where a method has thrown q: the class by its name, the cell, what was written, the world -/
def vx_T (XC : String → State → State → Prop) (st : State) (q : Addr) (t : State) (mc ms : Nat) (free : Addr → Prop) : Prop :=
  ∃ (E : String) (ce : Cell) (L : List Loc), XC E st t ∧ t.heap[q]? = some ce ∧ ce.vm = .none ∧ st.vm.findClass E = some ce.cls ∧ st.WarmedH t.vm ∧ st.sameButNew ({ t with vm := st.vm } : State) L mc ms ∧ ∀ z ∈ L, free z.base
def vx_Q (Qc : Array Value → State → Outcome → State → Prop) (XC : String → State → State → Prop) (mc ms : Nat) (free : Addr → Prop) : Array Value → State → Outcome → State → Prop := fun a st o t =>
  (Qc a st o t ∧ ∃ L, FrameEnd st o t L mc ms ∧ ∀ q ∈ L, free q.base) ∨ ∃ q, o = .threw q ∧ vx_T XC st q t mc ms free
/-- a callee that returns or throws -/
def vx_Met (l : Launch) (y : MethodName) (ws : List Cond) (rm : Room) (Pc : Array Value → State → Prop) (Qc : Array Value → State → Outcome → State → Prop) (XC : String → State → State → Prop) (mc ms : Nat) (free : Addr → Prop) : Prop :=
  MetFree l y (headSpec ws rm) Pc (fun _ _ _ _ _ => True) (vx_Q Qc XC mc ms free)
def vx_Post (XC : String → State → State → Prop) (mc ms : Nat) (free : Addr → Prop) : Pt → Array Value → Addr → Pt → Prop := fun A a q B =>
  ∃ (g : JFrame) (mk : MethodId) (t : State) (L : List Loc) (E : String) (ce : Cell), B.U.heap = t.heap ∧ B.U.vm = t.vm ∧ XC E (A.U.calling g mk a) t ∧ t.heap[q]? = some ce ∧ ce.vm = .none ∧ A.U.vm.findClass E = some ce.cls ∧ B.locs = A.locs ++ L ∧ (∀ z ∈ L, free z.base) ∧ B.cells = A.cells + mc ∧ B.slots = A.slots + ms
def vx_Back (l : Launch) (R : Room) (p : Program) (e : Env) (below : List Frame) (s : State) (sargs : Array Value) (y : MethodName) (len W9 : Nat)
    (Pre : Pt → Array Value → Prop) (Post : Pt → Array Value → Option Value → Pt → Prop) (PostX : Pt → Array Value → Addr → Pt → Prop) : Prop :=
  ∀ (m : MethodId) (meth : Method) (c : Code) (A : Pt) (g : JFrame) (ig : Instr) (mk : MethodId) (a : Array Value),
    Stand p l e R s m sargs below meth c A.U A.locs A.cells A.slots → g.method = m → g.locals.size = c.maxLocals → decode c.code g.pc = .ok (ig, len) →
    2 * g.monitorRoom + (g.stack.map fun v => v.category).sum ≤ W9 → A.U.methodNamed? y = some mk → Pre A a →
    (∃ (v : Option Value) (B : Pt), Stand p l e R s m sargs below meth c B.U B.locs B.cells B.slots ∧ Post A a v B ∧
      Steps p.tables e below (doInvoke e (A.U.setTop g) [] mk a).1 (B.U.setTop { g with pc := g.pc + len, stack := v.toList ++ g.stack })) ∨
    (∃ (q : Addr) (B : Pt), Stand p l e R s m sargs below meth c B.U B.locs B.cells B.slots ∧ PostX A a q B ∧
      Steps p.tables e below (doInvoke e (A.U.setTop g) [] mk a).1 ((B.U.setTop g).pushFrame (.throwing q)))
section Payer
variable {l : Launch} {R : Room} {p : Program} {e : Env} {below : List Frame} {s : State} {sargs : Array Value} {y : MethodName} {len W9 : Nat}
theorem vx_back {ws : List Cond} {rm : Room} {Pc : Array Value → State → Prop} {Qc : Array Value → State → Outcome → State → Prop} {XC : String → State → State → Prop} {mc ms : Nat} {free : Addr → Prop} {bytes : ByteArray} {maxL : Nat} {ret : Option FieldType}
    (hM : vx_Met l y ws rm Pc Qc XC mc ms free) (hblind : FrameBlind Pc) (hrc : rm.cells = mc) (hrs : rm.slots = ms)
    (hframes : rm.frames + 1 ≤ R.frames) (hlocals : W9 + (maxL + 11) + rm.locals ≤ R.locals)
    (hws : ∀ w ∈ ws, ∀ a' U, s.WarmedH U.vm → w.before a' U = true) (hcode : Cond.code y bytes maxL ret ∈ ws) (hinit : ∀ a' U, s.WarmedH U.vm → (Cond.initialized y.cls).before a' U = true) :
    vx_Back l R p e below s sargs y len W9 (PreOf R mc ms Pc) (PostOf Qc mc ms free) (vx_Post XC mc ms free) := by
  intro m meth c A g ig mk a X hg hsize hdg hW hn hp
  have h1 : (headSpec ws rm).pre.before a A.U = true := atoms_intro fun w hw => hws w hw _ _ X.warmed
  have h2 : (Cond.code y bytes maxL ret).before a A.U = true := hws _ hcode _ _ X.warmed
  have h3 : (Cond.initialized y.cls).before a A.U = true := hinit _ _ X.warmed
  have h4 : A.cells + (headSpec ws rm).room.cells ≤ R.cells := by rw [show (headSpec ws rm).room.cells = mc from hrc]; exact hp.1
  have h5 : A.slots + (headSpec ws rm).room.slots ≤ R.slots := by rw [show (headSpec ws rm).room.slots = ms from hrs]; exact hp.2.1
  have hPc : Pc a (A.U.calling g mk a) := hblind _ _ _ _ hp.2.2
  obtain ⟨U, Ls, c0, s0⟩ := A
  dsimp only [Pt.U, Pt.locs, Pt.cells, Pt.slots] at h1 h2 h3 h4 h5 X hn hPc ⊢
  obtain ⟨methY, cY, hmY, hcY, -, hlY, -, -, -, -⟩ := Cond.code_spec hn h2
  obtain ⟨kY, hkY, -⟩ := className_of_methodNamed hn
  have hinitY : kY.init = .initialized := Cond.initialized_spec (findClass_of_methodNamed hn) hkY h3
  have h : At U g.method c below := by rw [hg]; exact X.here
  have hlocals9 : W9 + (maxL + 11) + (headSpec ws rm).room.locals ≤ R.locals := hlocals
  have happ : (headSpec ws rm).appliesLoose y e.platform (U.calling g mk a) = true :=
    Spec.appliesLoose_calling (g := g) h hdg hn hkY hinitY
      (X.room_calling (g := g) (R' := (headSpec ws rm).room) hsize hmY hcY hframes (by rw [hlY]; omega) h4 h5) h1
  obtain ⟨mid, hmid⟩ := h.above
  have hfr : (U.setTop g).frames = (.java g :: mid) ++ below := by rw [State.frames_setTop' g h.top, hmid]; rfl
  obtain ⟨o, s₂, hsteps, -, hend, hq⟩ := Steps.callFree hM p X.admits X.cas X.clock (acts := []) hfr happ hPc trivial
  have hq' : vx_Q Qc XC mc ms free a (U.calling g mk a) o s₂ := hq
  rw [State.frames_setTop' g h.top] at hend
  obtain ⟨g₀, hg0⟩ := Option.isSome_iff_exists.mp h.top
  obtain ⟨r, hr⟩ := State.topJava?_eq_some.mp hg0
  have hr' : (({ U with heap := s₂.heap, slotsUsed := s₂.slotsUsed } : State).setVm s₂.vm).frames = .java g₀ :: r := hr
  rcases hq' with ⟨hqc, L, hfe, hL⟩ | ⟨q, rfl, E, ce, L, hx, hce, hcv, hcl, hW₂, hsm, hL⟩
  · obtain ⟨⟨v, rfl⟩, hW₂, e2, q2, q3, q4, q5, q6⟩ := id hfe
    have e3 : s₂ = ({ (U.calling g mk a).setFrames s₂.frames with heap := s₂.heap, slotsUsed := s₂.slotsUsed } : State).setVm s₂.vm := by
      have : s₂ = ({ s₂ with vm := (U.calling g mk a).vm } : State).setVm s₂.vm := rfl
      rw [e2] at this
      exact this
    obtain ⟨c₂, i₂, len₂, hc₂, hd₂, hf₂⟩ := hend
    have hW' : U.WarmedH s₂.vm := hW₂
    have hcc : c₂ = c := by
      have h1 : s₂.code? g.method = U.code? g.method := by
        rw [State.code?_eq, State.code?_eq, hW'.alike.method?]
      exact Option.some.inj (hc₂.symm.trans (h1.trans h.code))
    subst hcc
    have hlen : len₂ = len := by rw [hdg] at hd₂; cases hd₂; rfl
    subst hlen
    have hs₂ : s₂ = (({ U with heap := s₂.heap, slotsUsed := s₂.slotsUsed } : State).setVm s₂.vm).setTop { g with pc := g.pc + len₂, stack := v.toList ++ g.stack } := by
      refine e3.trans ?_
      rw [hf₂, State.calling_eq h.top, State.setFrames_setFrames, State.setTop_of_frames _ hr', hr]
      rfl
    have hsame : U.sameButNew ({ U with heap := s₂.heap, slotsUsed := s₂.slotsUsed } : State) L mc ms := by
      refine ⟨?_, q2, q3, q4, q5, q6⟩
      obtain ⟨t, ht, -⟩ := State.frames_cons hr
      show ({ U with heap := s₂.heap, slotsUsed := s₂.slotsUsed } : State) = { U.setFrames U.frames with heap := s₂.heap, slotsUsed := s₂.slotsUsed }
      rw [State.setFrames_self ht]
    subst hg
    refine Or.inl ⟨v, ⟨(({ U with heap := s₂.heap, slotsUsed := s₂.slotsUsed } : State).setVm s₂.vm), Ls ++ L, c0 + mc, s0 + ms⟩,
      ⟨X.admits, X.cas, X.clock, X.frames, X.room, X.hears, X.method, X.code, (X.here.setHeapUsed s₂.heap s₂.slotsUsed).setVm hW'.alike, X.tail, State.WarmedH.trans X.warmed hW', X.limits, X.bytes, X.same.trans (hsame.setVm s.vm)⟩,
      ⟨g, mk, s₂, L, rfl, rfl, hqc, rfl, hL, rfl, rfl⟩, ?_⟩
    show Steps p.tables e below _ ((({ U with heap := s₂.heap, slotsUsed := s₂.slotsUsed } : State).setVm s₂.vm).setTop { g with pc := g.pc + len₂, stack := v.toList ++ g.stack })
    rw [← hs₂]
    exact hsteps
  · obtain ⟨e2, q2, q3, q4, q5, q6⟩ := id hsm
    have e3 : s₂ = ({ (U.calling g mk a).setFrames s₂.frames with heap := s₂.heap, slotsUsed := s₂.slotsUsed } : State).setVm s₂.vm := by
      have : s₂ = ({ s₂ with vm := (U.calling g mk a).vm } : State).setVm s₂.vm := rfl
      rw [e2] at this
      exact this
    have hf₂ : s₂.frames = .throwing q :: .java g :: U.frames.tail := hend
    have hW' : U.WarmedH s₂.vm := hW₂
    have hs₂ : s₂ = ((({ U with heap := s₂.heap, slotsUsed := s₂.slotsUsed } : State).setVm s₂.vm).setTop g).pushFrame (.throwing q) := by
      refine e3.trans ?_
      rw [hf₂, State.calling_eq h.top, State.setFrames_setFrames, State.pushFrame, State.frames_setTop _ hr', State.setTop_of_frames _ hr', State.setFrames_setFrames, hr]
      rfl
    have hsame : U.sameButNew ({ U with heap := s₂.heap, slotsUsed := s₂.slotsUsed } : State) L mc ms := by
      refine ⟨?_, q2, q3, q4, q5, q6⟩
      obtain ⟨t, ht, -⟩ := State.frames_cons hr
      show ({ U with heap := s₂.heap, slotsUsed := s₂.slotsUsed } : State) = { U.setFrames U.frames with heap := s₂.heap, slotsUsed := s₂.slotsUsed }
      rw [State.setFrames_self ht]
    subst hg
    refine Or.inr ⟨q, ⟨(({ U with heap := s₂.heap, slotsUsed := s₂.slotsUsed } : State).setVm s₂.vm), Ls ++ L, c0 + mc, s0 + ms⟩,
      ⟨X.admits, X.cas, X.clock, X.frames, X.room, X.hears, X.method, X.code, (X.here.setHeapUsed s₂.heap s₂.slotsUsed).setVm hW'.alike, X.tail, State.WarmedH.trans X.warmed hW', X.limits, X.bytes, X.same.trans (hsame.setVm s.vm)⟩,
      ⟨g, mk, s₂, L, E, ce, rfl, rfl, hx, hce, hcv, hcl, rfl, hL, rfl, rfl⟩, ?_⟩
    show Steps p.tables e below _ (((({ U with heap := s₂.heap, slotsUsed := s₂.slotsUsed } : State).setVm s₂.vm).setTop g).pushFrame (.throwing q))
    rw [← hs₂]
    exact hsteps
end Payer
section Calls
variable {p : Program} {l : Launch} {e : Env} {R : Room} {s : State} {m : MethodId} {args : Array Value} {below : List Frame} {meth : Method} {c : Code} {T : State} {locs : List Loc} {cells slots : Nat}
theorem vx_callV (X : Stand p l e R s m args below meth c T locs cells slots) (hexec : p.tables.exec = Jvm.exec) {own C : String} {index : Nat} {y : MethodName} {bytes : ByteArray} {maxL : Nat} {ret : Option FieldType}
    (hown : s.vm.findClass own = some m.cls) (hlink : (Cond.methodLink own index y).before args s = true) (hinst : (Cond.instanceMethod y).before args s = true) (hsel : (Cond.selects C y y).before args s = true)
    (hcode : (Cond.code y bytes maxL ret).before args s = true) (hy : y.cls ≠ "java/lang/invoke/MethodHandle" ∧ y.cls ≠ "java/lang/invoke/VarHandle")
    {W9 : Nat} {Pre : Pt → Array Value → Prop} {Post : Pt → Array Value → Option Value → Pt → Prop} {PostX : Pt → Array Value → Addr → Pt → Prop} (hK : vx_Back l R p e below s args y 3 W9 Pre Post PostX)
    {b : Addr} {cellB : Cell} (hcell : T.heap[b]? = some cellB) (hobj : cellB.vm.isStatics = false) (hcls : s.vm.findClass C = some cellB.cls)
    {g : JFrame} (hg : g.method = m) (hsize : g.locals.size = c.maxLocals) {argsL rest : List Value} (hlen : ∀ sig, parseMethodDescriptor y.desc = some sig → argsL.length = sig.parameters.length)
    (hstack : g.stack = argsL.reverse ++ .ref b :: rest) (hW : 2 * g.monitorRoom + (rest.map fun v => v.category).sum ≤ W9) (hdg : decode c.code g.pc = .ok (.invokevirtual index, 3))
    (hpre : ∀ vm₁, s.WarmedH vm₁ → Pre ⟨T.setVm vm₁, locs, cells, slots⟩ (Value.ref b :: argsL).toArray) :
    (∃ (v : Option Value) (vm₁ : Vm) (B : Pt), s.WarmedH vm₁ ∧ Stand p l e R s m args below meth c B.U B.locs B.cells B.slots ∧ Post ⟨T.setVm vm₁, locs, cells, slots⟩ (Value.ref b :: argsL).toArray v B ∧
      ∀ target, Steps p.tables e below (B.U.setTop { g with pc := g.pc + 3, stack := v.toList ++ rest }) target → Steps p.tables e below (T.setTop g) target) ∨
    (∃ (q : Addr) (vm₁ : Vm) (B : Pt), s.WarmedH vm₁ ∧ Stand p l e R s m args below meth c B.U B.locs B.cells B.slots ∧ PostX ⟨T.setVm vm₁, locs, cells, slots⟩ (Value.ref b :: argsL).toArray q B ∧
      Steps p.tables e below (T.setTop g) ((B.U.setTop { g with stack := rest }).pushFrame (.throwing q))) := by
  obtain ⟨mk, methM, hnamed, hmethM, hstM, habM⟩ := Cond.instanceMethod_spec hinst
  obtain ⟨methM', cM, hmethM', -, -, -, -, -, -, hsigM⟩ := Cond.code_spec hnamed hcode
  cases hmethM.symm.trans hmethM'
  obtain ⟨c2, r2, m2, q1, q2, q3, q4, kP, hkP, hkPi⟩ := Cond.selects_spec hsel
  cases hcls.symm.trans q1
  cases (State.methodFound?_of_named hnamed hy).symm.trans q2
  cases hnamed.symm.trans q3
  have hselP : selectMethod e.platform s.vm cellB.cls mk = .method mk := by rw [Launch.admits_selectMethod X.admits]; exact q4
  obtain ⟨vm₁, X₁, hstep₁⟩ := X.invokevirtual hexec hown hlink hnamed hmethM hstM hkP hkPi hy (a := b) (cell := cellB) hcell
    (fun z h => by rw [h] at hobj; cases hobj) hselP hmethM habM hkP hkPi (g := g) hg (argsL := argsL) (rest := rest) (hlen _ hsigM) hstack hdg
  rcases hK m meth c ⟨T.setVm vm₁, locs, cells, slots⟩ { g with stack := rest } (.invokevirtual index) mk (Value.ref b :: argsL).toArray X₁ hg hsize hdg hW (X₁.named hnamed) (hpre vm₁ X₁.warmed) with ⟨v, B, X', hpost, hsteps⟩ | ⟨q, B, X', hpost, hsteps⟩
  · exact Or.inl ⟨v, vm₁, B, X₁.warmed, X', hpost, fun target h => hstep₁ _ fun acts => by rw [doInvoke_state]; exact hsteps.trans h⟩
  · exact Or.inr ⟨q, vm₁, B, X₁.warmed, X', hpost, hstep₁ _ fun acts => by rw [doInvoke_state]; exact hsteps⟩
theorem vx_callS (X : Stand p l e R s m args below meth c T locs cells slots) (hexec : p.tables.exec = Jvm.exec) {own : String} {index : Nat} {y : MethodName} {bytes : ByteArray} {maxL : Nat} {ret : Option FieldType}
    (hown : s.vm.findClass own = some m.cls) (hlink : (Cond.methodLink own index y).before args s = true) (hstat : (Cond.static y).before args s = true) (hinit : (Cond.initialized y.cls).before args s = true)
    (hcode : (Cond.code y bytes maxL ret).before args s = true) (hy : y.cls ≠ "java/lang/invoke/MethodHandle" ∧ y.cls ≠ "java/lang/invoke/VarHandle")
    {W9 : Nat} {Pre : Pt → Array Value → Prop} {Post : Pt → Array Value → Option Value → Pt → Prop} {PostX : Pt → Array Value → Addr → Pt → Prop} (hK : vx_Back l R p e below s args y 3 W9 Pre Post PostX)
    {g : JFrame} (hg : g.method = m) (hsize : g.locals.size = c.maxLocals) {argsL rest : List Value} (hlen : ∀ sig, parseMethodDescriptor y.desc = some sig → argsL.length = sig.parameters.length)
    (hstack : g.stack = argsL.reverse ++ rest) (hW : 2 * g.monitorRoom + (rest.map fun v => v.category).sum ≤ W9) (hdg : decode c.code g.pc = .ok (.invokestatic index, 3))
    (hpre : ∀ vm₁, s.WarmedH vm₁ → Pre ⟨T.setVm vm₁, locs, cells, slots⟩ argsL.toArray) :
    (∃ (v : Option Value) (vm₁ : Vm) (B : Pt), s.WarmedH vm₁ ∧ Stand p l e R s m args below meth c B.U B.locs B.cells B.slots ∧ Post ⟨T.setVm vm₁, locs, cells, slots⟩ argsL.toArray v B ∧
      ∀ target, Steps p.tables e below (B.U.setTop { g with pc := g.pc + 3, stack := v.toList ++ rest }) target → Steps p.tables e below (T.setTop g) target) ∨
    (∃ (q : Addr) (vm₁ : Vm) (B : Pt), s.WarmedH vm₁ ∧ Stand p l e R s m args below meth c B.U B.locs B.cells B.slots ∧ PostX ⟨T.setVm vm₁, locs, cells, slots⟩ argsL.toArray q B ∧
      Steps p.tables e below (T.setTop g) ((B.U.setTop { g with stack := rest }).pushFrame (.throwing q))) := by
  obtain ⟨mk, hnamed⟩ := Cond.code_named hcode
  obtain ⟨methM, cM, hmethM, -, -, -, -, -, -, hsigM⟩ := Cond.code_spec hnamed hcode
  have hstatic : methM.isStatic = true := Cond.static_spec hnamed hmethM hstat
  obtain ⟨kP, hkP, -⟩ := className_of_methodNamed hnamed
  have hinitP : kP.init = .initialized := Cond.initialized_spec (findClass_of_methodNamed hnamed) hkP hinit
  obtain ⟨vm₁, X₁, hstep₁⟩ := X.invokestatic hexec hown hlink hnamed hmethM hstatic hkP hinitP hy (g := g) hg (argsL := argsL) (rest := rest) (hlen _ hsigM) hstack hdg
  rcases hK m meth c ⟨T.setVm vm₁, locs, cells, slots⟩ { g with stack := rest } (.invokestatic index) mk argsL.toArray X₁ hg hsize hdg hW (X₁.named hnamed) (hpre vm₁ X₁.warmed) with ⟨v, B, X', hpost, hsteps⟩ | ⟨q, B, X', hpost, hsteps⟩
  · exact Or.inl ⟨v, vm₁, B, X₁.warmed, X', hpost, fun target h => hstep₁ _ fun acts => by rw [doInvoke_state]; exact hsteps.trans h⟩
  · exact Or.inr ⟨q, vm₁, B, X₁.warmed, X', hpost, hstep₁ _ fun acts => by rw [doInvoke_state]; exact hsteps⟩
end Calls
theorem vx_cls {s : State} {T : State} {vm₁ : Vm} {E : String} {k : ClassId} (hW : s.WarmedH vm₁) (h : (T.setVm vm₁).vm.findClass E = some k) : s.vm.findClass E = some k := by
  have h1 : vm₁.findClass E = some k := h
  rw [hW.alike.findClass] at h1
  exact h1
/-- the method's frame g, with q thrown over it -/
def vx_W (p : Program) (l : Launch) (e : Env) (R : Room) (s : State) (m : MethodId) (args : Array Value) (below : List Frame) (meth : Method) (c : Code) (H : Heap) (locs : List Loc) (cells slots : Nat) (Q : State → Prop) (g : JFrame) (q : Addr) : Prop :=
  ∀ T : State, T.heap = H → Stand p l e R s m args below meth c T locs cells slots → ∃ t, Steps p.tables e below ((T.setTop g).pushFrame (.throwing q)) t ∧ Q t
def vx_Run (p : Program) (l : Launch) (e : Env) (R : Room) (s : State) (m : MethodId) (args : Array Value) (below : List Frame) (meth : Method) (c : Code) (H : Heap) (locs : List Loc) (cells slots mc ms : Nat) (g : JFrame) (rest : List Value) (Qa : State → Outcome → State → Prop) (XC : String → State → State → Prop) (free : Addr → Prop) : Prop :=
  ∀ T : State, T.heap = H → Stand p l e R s m args below meth c T locs cells slots →
    (∃ (v : Option Value) (st₀ t T' : State) (L : List Loc), st₀.heap = H ∧ Stand p l e R s m args below meth c T' (locs ++ L) (cells + mc) (slots + ms) ∧ (∀ q ∈ L, free q.base) ∧ T'.heap = t.heap ∧ T'.vm = t.vm ∧ Qa st₀ (.returned v) t ∧
      Goes p e below T g T' { g with pc := g.pc + 3, stack := v.toList ++ rest }) ∨
    (∃ (q : Addr) (st₀ t T' : State) (L : List Loc) (E : String) (ce : Cell), st₀.heap = H ∧ Stand p l e R s m args below meth c T' (locs ++ L) (cells + mc) (slots + ms) ∧ (∀ z ∈ L, free z.base) ∧ T'.heap = t.heap ∧ T'.vm = t.vm ∧ XC E st₀ t ∧ t.heap[q]? = some ce ∧ ce.vm = .none ∧ s.vm.findClass E = some ce.cls ∧
      Steps p.tables e below (T.setTop g) ((T'.setTop { g with stack := rest }).pushFrame (.throwing q)))
def vx_X {S : Type} (px : S → Prop) (B : String → S → State → Prop) (A : Nat → Prop) : String → State → State → Prop := fun E st t => ∃ u : S, px u ∧ B E u t ∧ va_F A st t
section Runs
variable {p : Program} {l : Launch} {e : Env} {R : Room} {s : State} {m : MethodId} {args : Array Value} {below : List Frame} {meth : Method} {c : Code} {H : Heap} {locs : List Loc} {cells slots : Nat}
variable {y : MethodName} {bytes cc : ByteArray} {maxL nL mc ms n index : Nat} {ret : Option FieldType} {ws : List Cond} {rm : Room} {Pc : Array Value → State → Prop} {Qc : Array Value → State → Outcome → State → Prop} {XC : String → State → State → Prop} {free : Addr → Prop} {Ts : List Cond} {own C : String} {b : Addr} {As rest : List Value} {g : JFrame}
theorem vx_callBack (cb : CallB R s args own index y bytes maxL ret ws rm mc ms n) (hM : vx_Met l y ws rm Pc Qc XC mc ms free) (hbl : FrameBlind Pc) : vx_Back l R p e below s args y 3 8 (PreOf R mc ms Pc) (PostOf Qc mc ms free) (vx_Post XC mc ms free) := by
  obtain ⟨hrc, hrs, hfr, hlo, hws, hcw, -, hini, -⟩ := cb
  exact vx_back (bytes := bytes) (maxL := maxL) (ret := ret) hM hbl hrc hrs hfr hlo hws hcw (fun a' U hW => word_at hW (Or.inl (by first | rfl | simp [Cond.onTables, Cond.keeps, Cond.steady])) hini)
theorem vx_runV (S : CallFix p m c cc nL s args Ts own) (hM : vx_Met l y ws rm Pc Qc XC mc ms free) (cw : CallW R s args own C index y bytes maxL ret ws rm mc ms n) (hp : PreV s H C b Pc As)
    (hg : g.method = m) (hn : As.length = n) (hsize : g.locals.size = nL) (hstack : g.stack = As.reverse ++ .ref b :: rest) (hW : 2 * g.monitorRoom + (rest.map fun v => v.category).sum ≤ 8) (hdg : decode cc g.pc = .ok (.invokevirtual index, 3)) (hf : cells + mc ≤ R.cells ∧ slots + ms ≤ R.slots) :
    vx_Run p l e R s m args below meth c H locs cells slots mc ms g rest (Qc (Value.ref b :: As).toArray) XC free := by
  have hK : vx_Back l R p e below s args y 3 8 (PreOf R mc ms Pc) (PostOf Qc mc ms free) (vx_Post XC mc ms free) := vx_callBack cw.1 hM hp.1
  obtain ⟨⟨-, -, -, -, -, -, hcode, -, hy, hlen, hl⟩, hin, hse⟩ := cw
  obtain ⟨hx, hb, hml, ho, -⟩ := S
  obtain ⟨-, ⟨cellB, hcB, hoB, hclB⟩, hPc⟩ := hp
  intro T hT X
  rcases vx_callV X hx (C := C) (bytes := bytes) (maxL := maxL) (ret := ret) ho hl hin hse hcode hy hK (by rw [hT]; exact hcB) hoB hclB hg (hsize.trans hml.symm) (argsL := As) (rest := rest) (fun sig h => hn.trans (hlen sig h)) hstack hW (by rw [hb]; exact hdg)
    (fun vm₁ hW₁ => ⟨hf.1, hf.2, hPc (T.setVm vm₁) hT hW₁⟩) with ⟨v, vm₁, ⟨U', l2, c2, s2⟩, hW₁, X', ⟨g', mk, t, L, e1, e2, hq, h1, hL, h2, h3⟩, st⟩ | ⟨q, vm₁, ⟨U', l2, c2, s2⟩, hW₁, X', ⟨g', mk, t, L, E, ce, e1, e2, hq, hce, hcv, hcl, h1, hL, h2, h3⟩, st⟩
  · dsimp only [Pt.U, Pt.locs, Pt.cells, Pt.slots] at X' e1 e2 h1 h2 h3 st
    subst h1; subst h2; subst h3
    exact Or.inl ⟨v, (T.setVm vm₁).calling g' mk (Value.ref b :: As).toArray, t, U', L, hT, X', hL, e1, e2, hq, st⟩
  · dsimp only [Pt.U, Pt.locs, Pt.cells, Pt.slots] at X' e1 e2 h1 h2 h3 st hcl
    subst h1; subst h2; subst h3
    exact Or.inr ⟨q, (T.setVm vm₁).calling g' mk (Value.ref b :: As).toArray, t, U', L, E, ce, hT, X', hL, e1, e2, hq, hce, hcv, vx_cls hW₁ hcl, st⟩
theorem vx_runS (S : CallFix p m c cc nL s args Ts own) (hM : vx_Met l y ws rm Pc Qc XC mc ms free) (cw : CallB R s args own index y bytes maxL ret ws rm mc ms n ∧ (Cond.static y).before args s = true) (hp : PreS s H Pc As)
    (hg : g.method = m) (hn : As.length = n) (hsize : g.locals.size = nL) (hstack : g.stack = As.reverse ++ rest) (hW : 2 * g.monitorRoom + (rest.map fun v => v.category).sum ≤ 8) (hdg : decode cc g.pc = .ok (.invokestatic index, 3)) (hf : cells + mc ≤ R.cells ∧ slots + ms ≤ R.slots) :
    vx_Run p l e R s m args below meth c H locs cells slots mc ms g rest (Qc As.toArray) XC free := by
  have hK : vx_Back l R p e below s args y 3 8 (PreOf R mc ms Pc) (PostOf Qc mc ms free) (vx_Post XC mc ms free) := vx_callBack cw.1 hM hp.1
  obtain ⟨⟨-, -, -, -, -, -, hcode, hini, hy, hlen, hl⟩, hstt⟩ := cw
  obtain ⟨hx, hb, hml, ho, -⟩ := S
  intro T hT X
  rcases vx_callS X hx (bytes := bytes) (maxL := maxL) (ret := ret) ho hl hstt hini hcode hy hK hg (hsize.trans hml.symm) (argsL := As) (rest := rest) (fun sig h => hn.trans (hlen sig h)) hstack hW (by rw [hb]; exact hdg)
    (fun vm₁ hW₁ => ⟨hf.1, hf.2, hp.2 (T.setVm vm₁) hT hW₁⟩) with ⟨v, vm₁, ⟨U', l2, c2, s2⟩, hW₁, X', ⟨g', mk, t, L, e1, e2, hq, h1, hL, h2, h3⟩, st⟩ | ⟨q, vm₁, ⟨U', l2, c2, s2⟩, hW₁, X', ⟨g', mk, t, L, E, ce, e1, e2, hq, hce, hcv, hcl, h1, hL, h2, h3⟩, st⟩
  · dsimp only [Pt.U, Pt.locs, Pt.cells, Pt.slots] at X' e1 e2 h1 h2 h3 st
    subst h1; subst h2; subst h3
    exact Or.inl ⟨v, (T.setVm vm₁).calling g' mk As.toArray, t, U', L, hT, X', hL, e1, e2, hq, st⟩
  · dsimp only [Pt.U, Pt.locs, Pt.cells, Pt.slots] at X' e1 e2 h1 h2 h3 st hcl
    subst h1; subst h2; subst h3
    exact Or.inr ⟨q, (T.setVm vm₁).calling g' mk As.toArray, t, U', L, E, ce, hT, X', hL, e1, e2, hq, hce, hcv, vx_cls hW₁ hcl, st⟩
end Runs
section Rows
variable {p : Program} {l : Launch} {e : Env} {R : Room} {s : State} {m : MethodId} {args : Array Value} {below : List Frame} {meth : Method} {c : Code} {H : Heap} {locs : List Loc} {cells slots : Nat} {Q : State → Prop}
variable {mc ms : Nat} {free : Addr → Prop} {A0 A1 : Nat → Prop} {H0 : Heap} {a : Array Value} {pc : Nat} {ls : Array Slot} {st0 rest : List Value}
theorem vx_keep {st₀ t T' : State} {L : List Loc} (h0 : st₀.heap = H) (e1 : T'.heap = t.heap) (hS : va_S A0 H0 H locs) (hA : ∀ q, q < H.size → A1 q → A0 q) (hf : ∀ q, free q → A0 q) (hL : ∀ q ∈ L, free q.base) (hF : va_F A1 st₀ t) :
    H.size ≤ T'.heap.size ∧ (∀ q : Nat, q < H.size → ¬ A1 q → T'.heap[q]? = H[q]?) ∧ va_S A0 H0 T'.heap (locs ++ L) := by
  obtain ⟨hz, hk⟩ := hF
  rw [h0] at hz hk
  exact ⟨by rw [e1]; exact hz, fun q h1 h2 => by rw [e1]; exact hk q h1 h2,
    ⟨Nat.le_trans hS.1 (by rw [e1]; exact hz), fun q h1 h2 => by rw [e1, hk q (Nat.lt_of_lt_of_le h1 hS.1) (fun z => h2 (hA q (Nat.lt_of_lt_of_le h1 hS.1) z))]; exact hS.2.1 q h1 h2, fun q hq => by
      rcases List.mem_append.mp hq with h | h
      · exact hS.2.2 q h
      · exact hf _ (hL q h)⟩⟩
theorem vx_calli {S SX : Type} {post : Int32 → S → Prop} {px : SX → Prop} {B : S → State → Prop} {BX : String → SX → State → Prop} {AX : Nat → Prop} (hr : vx_Run p l e R s m args below meth c H locs cells slots mc ms (F0 m pc ls st0) rest (va_Qi post B A1 a) (vx_X px BX AX) free) (hS : va_S A0 H0 H locs) (hA : ∀ q, q < H.size → A1 q → A0 q) (hf : ∀ q, free q → A0 q) (hAX : ∀ q, q < H.size → AX q → A0 q)
    (kx : ∀ (E : String) (ce : Cell) (q9 : Addr) (u : SX) (t : State) (H1 : Heap) (locs1 : List Loc), t.heap = H1 → s.vm.Alike t.vm → px u → BX E u t → H.size ≤ H1.size → (∀ q : Nat, q < H.size → ¬ AX q → H1[q]? = H[q]?) → va_S A0 H0 H1 locs1 → H1[q9]? = some ce → ce.vm = .none → s.vm.findClass E = some ce.cls → vx_W p l e R s m args below meth c H1 locs1 (cells + mc) (slots + ms) Q (F0 m pc ls rest) q9)
    (kk : ∀ (r : Int32) (u : S) (t : State) (H1 : Heap) (locs1 : List Loc), t.heap = H1 → s.vm.Alike t.vm → post r u → B u t → H.size ≤ H1.size → (∀ q : Nat, q < H.size → ¬ A1 q → H1[q]? = H[q]?) → va_S A0 H0 H1 locs1 → W p l e R s m args below meth c H1 locs1 (cells + mc) (slots + ms) Q (F0 m (pc + 3) ls (.int r :: rest))) : W p l e R s m args below meth c H locs cells slots Q (F0 m pc ls st0) := by
  intro T hT X
  rcases hr T hT X with ⟨v, st₀, t, T', L, h0, X', hL, e1, e2, ⟨⟨r, u, hv, hp, hb⟩, hF⟩, st⟩ | ⟨q, st₀, t, T', L, E, ce, h0, X', hL, e1, e2, ⟨u, hp, hb, hF⟩, hce, hcv, hcl, st⟩
  · cases hv
    obtain ⟨k1, k2, k3⟩ := vx_keep h0 e1 hS hA hf hL hF
    obtain ⟨t2, a1, b1⟩ := kk r u t T'.heap (locs ++ L) e1.symm (by rw [← e2]; exact X'.warmed.alike) hp hb k1 k2 k3 T' rfl X'
    exact ⟨t2, st t2 a1, b1⟩
  · obtain ⟨k1, k2, k3⟩ := vx_keep h0 e1 hS hAX hf hL hF
    obtain ⟨t2, a1, b1⟩ := kx E ce q u t T'.heap (locs ++ L) e1.symm (by rw [← e2]; exact X'.warmed.alike) hp hb k1 k2 k3 (by rw [e1]; exact hce) hcv hcl T' rfl X'
    exact ⟨t2, st.trans a1, b1⟩
theorem vx_calll {S SX : Type} {post : Int64 → S → Prop} {px : SX → Prop} {B : S → State → Prop} {BX : String → SX → State → Prop} {AX : Nat → Prop} (hr : vx_Run p l e R s m args below meth c H locs cells slots mc ms (F0 m pc ls st0) rest (va_Ql post B A1 a) (vx_X px BX AX) free) (hS : va_S A0 H0 H locs) (hA : ∀ q, q < H.size → A1 q → A0 q) (hf : ∀ q, free q → A0 q) (hAX : ∀ q, q < H.size → AX q → A0 q)
    (kx : ∀ (E : String) (ce : Cell) (q9 : Addr) (u : SX) (t : State) (H1 : Heap) (locs1 : List Loc), t.heap = H1 → s.vm.Alike t.vm → px u → BX E u t → H.size ≤ H1.size → (∀ q : Nat, q < H.size → ¬ AX q → H1[q]? = H[q]?) → va_S A0 H0 H1 locs1 → H1[q9]? = some ce → ce.vm = .none → s.vm.findClass E = some ce.cls → vx_W p l e R s m args below meth c H1 locs1 (cells + mc) (slots + ms) Q (F0 m pc ls rest) q9)
    (kk : ∀ (r : Int64) (u : S) (t : State) (H1 : Heap) (locs1 : List Loc), t.heap = H1 → s.vm.Alike t.vm → post r u → B u t → H.size ≤ H1.size → (∀ q : Nat, q < H.size → ¬ A1 q → H1[q]? = H[q]?) → va_S A0 H0 H1 locs1 → W p l e R s m args below meth c H1 locs1 (cells + mc) (slots + ms) Q (F0 m (pc + 3) ls (.long r :: rest))) : W p l e R s m args below meth c H locs cells slots Q (F0 m pc ls st0) := by
  intro T hT X
  rcases hr T hT X with ⟨v, st₀, t, T', L, h0, X', hL, e1, e2, ⟨⟨r, u, hv, hp, hb⟩, hF⟩, st⟩ | ⟨q, st₀, t, T', L, E, ce, h0, X', hL, e1, e2, ⟨u, hp, hb, hF⟩, hce, hcv, hcl, st⟩
  · cases hv
    obtain ⟨k1, k2, k3⟩ := vx_keep h0 e1 hS hA hf hL hF
    obtain ⟨t2, a1, b1⟩ := kk r u t T'.heap (locs ++ L) e1.symm (by rw [← e2]; exact X'.warmed.alike) hp hb k1 k2 k3 T' rfl X'
    exact ⟨t2, st t2 a1, b1⟩
  · obtain ⟨k1, k2, k3⟩ := vx_keep h0 e1 hS hAX hf hL hF
    obtain ⟨t2, a1, b1⟩ := kx E ce q u t T'.heap (locs ++ L) e1.symm (by rw [← e2]; exact X'.warmed.alike) hp hb k1 k2 k3 (by rw [e1]; exact hce) hcv hcl T' rfl X'
    exact ⟨t2, st.trans a1, b1⟩
theorem vx_callf {S SX : Type} {post : UInt32 → S → Prop} {px : SX → Prop} {B : S → State → Prop} {BX : String → SX → State → Prop} {AX : Nat → Prop} (hr : vx_Run p l e R s m args below meth c H locs cells slots mc ms (F0 m pc ls st0) rest (va_Qf post B A1 a) (vx_X px BX AX) free) (hS : va_S A0 H0 H locs) (hA : ∀ q, q < H.size → A1 q → A0 q) (hf : ∀ q, free q → A0 q) (hAX : ∀ q, q < H.size → AX q → A0 q)
    (kx : ∀ (E : String) (ce : Cell) (q9 : Addr) (u : SX) (t : State) (H1 : Heap) (locs1 : List Loc), t.heap = H1 → s.vm.Alike t.vm → px u → BX E u t → H.size ≤ H1.size → (∀ q : Nat, q < H.size → ¬ AX q → H1[q]? = H[q]?) → va_S A0 H0 H1 locs1 → H1[q9]? = some ce → ce.vm = .none → s.vm.findClass E = some ce.cls → vx_W p l e R s m args below meth c H1 locs1 (cells + mc) (slots + ms) Q (F0 m pc ls rest) q9)
    (kk : ∀ (r : UInt32) (u : S) (t : State) (H1 : Heap) (locs1 : List Loc), t.heap = H1 → s.vm.Alike t.vm → post r u → B u t → H.size ≤ H1.size → (∀ q : Nat, q < H.size → ¬ A1 q → H1[q]? = H[q]?) → va_S A0 H0 H1 locs1 → W p l e R s m args below meth c H1 locs1 (cells + mc) (slots + ms) Q (F0 m (pc + 3) ls (.float r :: rest))) : W p l e R s m args below meth c H locs cells slots Q (F0 m pc ls st0) := by
  intro T hT X
  rcases hr T hT X with ⟨v, st₀, t, T', L, h0, X', hL, e1, e2, ⟨⟨r, u, hv, hp, hb⟩, hF⟩, st⟩ | ⟨q, st₀, t, T', L, E, ce, h0, X', hL, e1, e2, ⟨u, hp, hb, hF⟩, hce, hcv, hcl, st⟩
  · cases hv
    obtain ⟨k1, k2, k3⟩ := vx_keep h0 e1 hS hA hf hL hF
    obtain ⟨t2, a1, b1⟩ := kk r u t T'.heap (locs ++ L) e1.symm (by rw [← e2]; exact X'.warmed.alike) hp hb k1 k2 k3 T' rfl X'
    exact ⟨t2, st t2 a1, b1⟩
  · obtain ⟨k1, k2, k3⟩ := vx_keep h0 e1 hS hAX hf hL hF
    obtain ⟨t2, a1, b1⟩ := kx E ce q u t T'.heap (locs ++ L) e1.symm (by rw [← e2]; exact X'.warmed.alike) hp hb k1 k2 k3 (by rw [e1]; exact hce) hcv hcl T' rfl X'
    exact ⟨t2, st.trans a1, b1⟩
theorem vx_calld {S SX : Type} {post : UInt64 → S → Prop} {px : SX → Prop} {B : S → State → Prop} {BX : String → SX → State → Prop} {AX : Nat → Prop} (hr : vx_Run p l e R s m args below meth c H locs cells slots mc ms (F0 m pc ls st0) rest (va_Qd post B A1 a) (vx_X px BX AX) free) (hS : va_S A0 H0 H locs) (hA : ∀ q, q < H.size → A1 q → A0 q) (hf : ∀ q, free q → A0 q) (hAX : ∀ q, q < H.size → AX q → A0 q)
    (kx : ∀ (E : String) (ce : Cell) (q9 : Addr) (u : SX) (t : State) (H1 : Heap) (locs1 : List Loc), t.heap = H1 → s.vm.Alike t.vm → px u → BX E u t → H.size ≤ H1.size → (∀ q : Nat, q < H.size → ¬ AX q → H1[q]? = H[q]?) → va_S A0 H0 H1 locs1 → H1[q9]? = some ce → ce.vm = .none → s.vm.findClass E = some ce.cls → vx_W p l e R s m args below meth c H1 locs1 (cells + mc) (slots + ms) Q (F0 m pc ls rest) q9)
    (kk : ∀ (r : UInt64) (u : S) (t : State) (H1 : Heap) (locs1 : List Loc), t.heap = H1 → s.vm.Alike t.vm → post r u → B u t → H.size ≤ H1.size → (∀ q : Nat, q < H.size → ¬ A1 q → H1[q]? = H[q]?) → va_S A0 H0 H1 locs1 → W p l e R s m args below meth c H1 locs1 (cells + mc) (slots + ms) Q (F0 m (pc + 3) ls (.double r :: rest))) : W p l e R s m args below meth c H locs cells slots Q (F0 m pc ls st0) := by
  intro T hT X
  rcases hr T hT X with ⟨v, st₀, t, T', L, h0, X', hL, e1, e2, ⟨⟨r, u, hv, hp, hb⟩, hF⟩, st⟩ | ⟨q, st₀, t, T', L, E, ce, h0, X', hL, e1, e2, ⟨u, hp, hb, hF⟩, hce, hcv, hcl, st⟩
  · cases hv
    obtain ⟨k1, k2, k3⟩ := vx_keep h0 e1 hS hA hf hL hF
    obtain ⟨t2, a1, b1⟩ := kk r u t T'.heap (locs ++ L) e1.symm (by rw [← e2]; exact X'.warmed.alike) hp hb k1 k2 k3 T' rfl X'
    exact ⟨t2, st t2 a1, b1⟩
  · obtain ⟨k1, k2, k3⟩ := vx_keep h0 e1 hS hAX hf hL hF
    obtain ⟨t2, a1, b1⟩ := kx E ce q u t T'.heap (locs ++ L) e1.symm (by rw [← e2]; exact X'.warmed.alike) hp hb k1 k2 k3 (by rw [e1]; exact hce) hcv hcl T' rfl X'
    exact ⟨t2, st.trans a1, b1⟩
theorem vx_callv {S SX : Type} {post : S → Prop} {px : SX → Prop} {B : S → State → Prop} {BX : String → SX → State → Prop} {AX : Nat → Prop} (hr : vx_Run p l e R s m args below meth c H locs cells slots mc ms (F0 m pc ls st0) rest (va_Qv post B A1 a) (vx_X px BX AX) free) (hS : va_S A0 H0 H locs) (hA : ∀ q, q < H.size → A1 q → A0 q) (hf : ∀ q, free q → A0 q) (hAX : ∀ q, q < H.size → AX q → A0 q)
    (kx : ∀ (E : String) (ce : Cell) (q9 : Addr) (u : SX) (t : State) (H1 : Heap) (locs1 : List Loc), t.heap = H1 → s.vm.Alike t.vm → px u → BX E u t → H.size ≤ H1.size → (∀ q : Nat, q < H.size → ¬ AX q → H1[q]? = H[q]?) → va_S A0 H0 H1 locs1 → H1[q9]? = some ce → ce.vm = .none → s.vm.findClass E = some ce.cls → vx_W p l e R s m args below meth c H1 locs1 (cells + mc) (slots + ms) Q (F0 m pc ls rest) q9)
    (kk : ∀ (u : S) (t : State) (H1 : Heap) (locs1 : List Loc), t.heap = H1 → s.vm.Alike t.vm → post u → B u t → H.size ≤ H1.size → (∀ q : Nat, q < H.size → ¬ A1 q → H1[q]? = H[q]?) → va_S A0 H0 H1 locs1 → W p l e R s m args below meth c H1 locs1 (cells + mc) (slots + ms) Q (F0 m (pc + 3) ls (rest))) : W p l e R s m args below meth c H locs cells slots Q (F0 m pc ls st0) := by
  intro T hT X
  rcases hr T hT X with ⟨v, st₀, t, T', L, h0, X', hL, e1, e2, ⟨⟨u, hv, hp, hb⟩, hF⟩, st⟩ | ⟨q, st₀, t, T', L, E, ce, h0, X', hL, e1, e2, ⟨u, hp, hb, hF⟩, hce, hcv, hcl, st⟩
  · cases hv
    obtain ⟨k1, k2, k3⟩ := vx_keep h0 e1 hS hA hf hL hF
    obtain ⟨t2, a1, b1⟩ := kk u t T'.heap (locs ++ L) e1.symm (by rw [← e2]; exact X'.warmed.alike) hp hb k1 k2 k3 T' rfl X'
    exact ⟨t2, st t2 a1, b1⟩
  · obtain ⟨k1, k2, k3⟩ := vx_keep h0 e1 hS hAX hf hL hF
    obtain ⟨t2, a1, b1⟩ := kx E ce q u t T'.heap (locs ++ L) e1.symm (by rw [← e2]; exact X'.warmed.alike) hp hb k1 k2 k3 (by rw [e1]; exact hce) hcv hcl T' rfl X'
    exact ⟨t2, st.trans a1, b1⟩
/-- caught by the row x of this method's table; the rows ahead don't take it -/
theorem vx_catch {own name : String} {E : String} {ce : Cell} {q : Addr} (hown : s.vm.findClass own = some m.cls) (pre : List ExceptionTableEntry) (x : ExceptionTableEntry) (suf : List ExceptionTableEntry) (hsplit : c.exceptionTable.toList = pre ++ x :: suf)
    (hpass : ∀ z ∈ pre, covers z pc = false ∨ (z.catchType ≠ 0 ∧ ∃ nm : String, (Cond.classLink own z.catchType nm).before args s = true ∧ va_Nc E nm s)) (hx : covers x pc = true) (h0 : x.catchType ≠ 0)
    (hlink : (Cond.classLink own x.catchType name).before args s = true) (hcast : (Cond.castable E name).before args s = true) (hcell : H[q]? = some ce) (hv : ce.vm = .none) (hcl : s.vm.findClass E = some ce.cls)
    (kk : W p l e R s m args below meth c H locs cells slots Q (F0 m x.handlerPc ls [.ref q])) : vx_W p l e R s m args below meth c H locs cells slots Q (F0 m pc ls rest) q := by
  intro T hT X
  have hpl : e.platform.magicAccessors = ({} : Platform).magicAccessors := by rw [X.admits.platform]
  obtain ⟨c3, c4, hc3, hc4, hasg⟩ := Cond.castable_spec hcast
  cases Option.some.inj (hc3.symm.trans hcl)
  obtain ⟨c5, hc5, hcl5⟩ := Cond.classLink_spec hown hlink e.platform hpl
  cases Option.some.inj (hc4.symm.trans hc5)
  obtain ⟨vm', X', st⟩ := X.thenCaughtThrough q (g := F0 m pc ls rest) rfl (Steps.refl _) (by rw [hT]; exact hcell) (by rw [hv]; rfl) (by obtain ⟨k9, h9, -⟩ := Vm.findClass_spec hcl; exact ⟨k9, h9⟩) pre x suf hsplit
    (fun z hz => by
      rcases hpass z hz with h | ⟨hz0, nm, hl1, hn1⟩
      · exact Or.inl h
      · obtain ⟨c6, hc6, hcl6⟩ := Cond.classLink_spec hown hl1 e.platform hpl
        obtain ⟨a8, b8, h1, h2, h3⟩ := hn1
        cases Option.some.inj (h1.symm.trans hcl)
        cases Option.some.inj (h2.symm.trans hc6)
        exact Or.inr ⟨hz0, _, hcl6, h3⟩) hx (Or.inr ⟨h0, c4, hcl5, hasg⟩)
  obtain ⟨t, a1, b1⟩ := kk (T.setVm vm') hT X'
  exact ⟨t, st.trans a1, b1⟩
end Rows
section Ends
variable {p : Program} {l : Launch} {e : Env} {R : Room} {s : State} {m : MethodId} {args : Array Value} {below : List Frame} {meth : Method} {c : Code} {H : Heap} {locs : List Loc} {cells slots : Nat} {Q : State → Prop}
variable {mc ms : Nat} {free : Addr → Prop} {A0 A1 : Nat → Prop} {H0 : Heap} {a : Array Value} {ls : Array Slot} {st0 rest : List Value}
variable {Qc : Array Value → State → Outcome → State → Prop} {XC : String → State → State → Prop}
/-- what a body that may throw owes at its end -/
def vx_MQ (below : List Frame) (Qc : Array Value → State → Outcome → State → Prop) (XC : String → State → State → Prop) (a : Array Value) (s : State) (mc ms : Nat) (free : Addr → Prop) : State → Prop := fun t =>
  ∃ o, t.status = .running ∧ Ended t below o ∧ vx_Q Qc XC mc ms free a s o t
theorem vx_ret {g : JFrame} {mc ms : Nat} (k : W p l e R s m args below meth c H locs cells slots (MQ below Qc args s mc ms free) g) : W p l e R s m args below meth c H locs cells slots (vx_MQ below Qc XC args s mc ms free) g := by
  intro T hT X
  obtain ⟨t, a1, o, b1, b2, b3, b4⟩ := k T hT X
  exact ⟨t, a1, o, b1, b2, Or.inl ⟨b3, b4⟩⟩
/-- not caught here: it goes on to the caller -/
theorem vx_widen {g : JFrame} {q : Addr} {k n : Nat} (h1 : cells ≤ k) (h2 : slots ≤ n) (kk : vx_W p l e R s m args below meth c H locs k n Q g q) : vx_W p l e R s m args below meth c H locs cells slots Q g q := fun T hT X => kk T hT (stand_widen X h1 h2)
theorem vx_out {pc : Nat} {E : String} {ce : Cell} {q : Addr} {mc ms : Nat} (hout : ∀ x ∈ c.exceptionTable.toList, covers x pc = false) (hlocks : meth.locks = false) (hcell : H[q]? = some ce) (hv : ce.vm = .none) (hcl : s.vm.findClass E = some ce.cls)
    (hx : ∀ t : State, t.heap = H → s.vm.Alike t.vm → XC E s t) (hf : ∀ z ∈ locs, free z.base) (hc : cells ≤ mc) (hs : slots ≤ ms) :
    vx_W p l e R s m args below meth c H locs cells slots (vx_MQ below Qc XC args s mc ms free) (F0 m pc ls rest) q := by
  intro T hT X
  obtain ⟨st1, hrun, hend, hW, hsm⟩ := X.leaveThrown q (g := F0 m pc ls rest) rfl rfl rfl hout hlocks
  have hcell9 : (T.setFrames (.throwing q :: below)).heap[q]? = some ce := by
    show T.heap[q]? = some ce
    rw [hT]; exact hcell
  exact ⟨_, st1, .threw q, hrun, hend, Or.inr ⟨q, rfl, E, ce, locs, hx _ hT hW.alike, hcell9, hv, hcl, hW, hsm.mono hc hs, hf⟩⟩
theorem vx_frame {U : State} {k n : Nat} (h : s.sameButNew ({ U with vm := s.vm } : State) locs k n) : s.heap.size ≤ U.heap.size ∧ ∀ q : Nat, q < s.heap.size → (∀ z ∈ locs, z.base ≠ q) → U.heap[q]? = s.heap[q]? := by
  obtain ⟨-, h2, -, -, -, h6⟩ := h
  refine ⟨h2, fun q hq hz => ?_⟩
  obtain ⟨c9, e1, e2, e3, e4⟩ := h6 q _ (Array.getElem?_eq_getElem hq)
  have hs : c9.slots = (s.heap[q]).slots := Array.ext_getElem? fun i => e4 i fun hm => hz _ hm rfl
  have h9 : c9 = s.heap[q] := by
    rw [hs] at e2
    exact e2
  have e5 : U.heap[q]? = some c9 := e1
  rw [e5, h9, Array.getElem?_eq_getElem hq]
/-- the words of a throw but the four that speak of the heap -/
def vx_no (w : Cond) : Bool := decide (w ≠ .isRef (.static Bundle.tN "UNASSIGNED_STACK" Bundle.steD)) && decide (w ≠ .isRef (.static Bundle.tN "SUPPRESSED_SENTINEL" Bundle.listD)) && decide (w ≠ .laysStatic Bundle.tN "UNASSIGNED_STACK" Bundle.steD) && decide (w ≠ .laysStatic Bundle.tN "SUPPRESSED_SENTINEL" Bundle.listD)
def vx_at0 (own : String) (ic : Nat) (X : String) (names : List String) : List Cond := (Bundle.ownAtoms0 own ic X names).filter vx_no
def vx_atS (own : String) (ic : Nat) (X : String) (names : List String) : List Cond := (Bundle.ownAtoms own ic X names).filter vx_no
/-- a word that the tables alone decide, or a good one -/
def vx_ot (w : Cond) : Bool := w.onTables || goodWord w
theorem vx_ot_at {args a' : Array Value} {s U : State} {w : Cond} (hW : s.WarmedH U.vm) (hvm : s.vm = U.vm) (hg : vx_ot w = true) (h : w.before args s = true) : w.before a' U = true := by
  simp only [vx_ot, Bool.or_eq_true] at hg
  rcases hg with hg | hg
  · exact va_tabs hg hvm h
  · exact word_at hW (good_of_word hg) h
/-- a list's words: the good ones out of the method's own list, the others by premises of their own -/
theorem vx_hat {args : Array Value} {s : State} {L B : List Cond} (h1 : ∀ w ∈ L.filter goodWord, w.before args s = true) (h2 : ∀ w ∈ L.filter (fun w => !goodWord w), w ∈ B) (h3 : ∀ w ∈ B, w.before args s = true) : ∀ w ∈ L, w.before args s = true := by
  intro w hw
  by_cases g : goodWord w = true
  · exact h1 w (List.mem_filter.mpr ⟨hw, g⟩)
  · refine h3 w (h2 w (List.mem_filter.mpr ⟨hw, ?_⟩))
    show (!goodWord w) = true
    cases hgw : goodWord w
    · rfl
    · exact absurd hgw g
theorem vx_c {args : Array Value} {s : State} {w : Cond} {B : List Cond} (h : w.before args s = true) (t : ∀ w ∈ B, w.before args s = true) : ∀ w' ∈ w :: B, w'.before args s = true := fun w' h' => (List.mem_cons.mp h').elim (fun e => by rw [e]; exact h) (t w')
theorem vx_n {args : Array Value} {s : State} : ∀ w ∈ ([] : List Cond), w.before args s = true := fun _ h => nomatch h
theorem vx_own {args : Array Value} {s : State} {L : List Cond} (h1 : ∀ w ∈ L.filter vx_no, w.before args s = true)
    (hU : (Cond.isRef (.static Bundle.tN "UNASSIGNED_STACK" Bundle.steD)).before args s = true) (hN : (Cond.isRef (.static Bundle.tN "SUPPRESSED_SENTINEL" Bundle.listD)).before args s = true)
    (lU : (Cond.laysStatic Bundle.tN "UNASSIGNED_STACK" Bundle.steD).before args s = true) (lN : (Cond.laysStatic Bundle.tN "SUPPRESSED_SENTINEL" Bundle.listD).before args s = true) : ∀ w ∈ L, w.before args s = true := by
  intro w hw
  by_cases e1 : w = .isRef (.static Bundle.tN "UNASSIGNED_STACK" Bundle.steD)
  · rw [e1]; exact hU
  · by_cases e2 : w = .isRef (.static Bundle.tN "SUPPRESSED_SENTINEL" Bundle.listD)
    · rw [e2]; exact hN
    · by_cases e3 : w = .laysStatic Bundle.tN "UNASSIGNED_STACK" Bundle.steD
      · rw [e3]; exact lU
      · by_cases e4 : w = .laysStatic Bundle.tN "SUPPRESSED_SENTINEL" Bundle.listD
        · rw [e4]; exact lN
        · exact h1 w (List.mem_filter.mpr ⟨hw, by unfold vx_no; rw [decide_eq_true e1, decide_eq_true e2, decide_eq_true e3, decide_eq_true e4]; rfl⟩)
/-- where a static field lies, its class's statics cell in H -/
def vx_L (C n d : String) (A : Nat → Prop) (U : State) (H : Heap) : Prop := ∃ (c : ClassId) (k : Class) (i : Nat) (f : Field) (a : Nat) (cell : Cell), U.vm.findClass C = some c ∧ U.fieldFound? C n d = some (c, k, i, f) ∧ f.isStatic = true ∧ k.statics = some a ∧ H[a]? = some cell ∧ cell.vm.isStatics = true ∧ cell.cls = c ∧ f.slot < cell.slots.size ∧ k.staticTypes[f.slot]? = some f.type ∧ ¬ A a
theorem vx_L.moved {C n d : String} {A : Nat → Prop} {u U : State} {H : Heap} (hvm : u.vm.Alike U.vm) (h : vx_L C n d A u H) : vx_L C n d A U H := by
  obtain ⟨c, k, i, f, a, cell, h1, h2, h3, h4, h5, h6, h7, h8, h9, h10⟩ := h
  obtain ⟨k', hi', he⟩ := State.fieldFound?_setVm hvm h2
  exact ⟨c, k', i, f, a, cell, by rw [hvm.findClass]; exact h1, hi', h3, by rw [he]; exact h4, h5, h6, h7, h8, by rw [he]; exact h9, h10⟩
theorem vx_L.kept {C n d : String} {A : Nat → Prop} {U : State} {H H1 : Heap} (h : vx_L C n d A U H) (hq : ∀ a : Nat, a < H.size → ¬ A a → H1[a]? = H[a]?) : vx_L C n d A U H1 := by
  obtain ⟨c, k, i, f, a, cell, h1, h2, h3, h4, h5, h6, h7, h8, h9, h10⟩ := h
  exact ⟨c, k, i, f, a, cell, h1, h2, h3, h4, by rw [hq a (Array.getElem?_eq_some_iff.mp h5).1 h10]; exact h5, h6, h7, h8, h9, h10⟩
theorem vx_L.narrow {C n d : String} {A B : Nat → Prop} {U : State} {H : Heap} (h : vx_L C n d A U H) (hAB : ∀ q, B q → A q) : vx_L C n d B U H := by
  obtain ⟨c, k, i, f, a, cell, h1, h2, h3, h4, h5, h6, h7, h8, h9, h10⟩ := h
  exact ⟨c, k, i, f, a, cell, h1, h2, h3, h4, h5, h6, h7, h8, h9, fun z => h10 (hAB _ z)⟩
theorem vx_L.word {C n d : String} {A : Nat → Prop} {s : State} {args : Array Value} (h : vx_L C n d A s s.heap) : (Cond.laysStatic C n d).before args s = true := by
  obtain ⟨c, k, i, f, a, cell, h1, h2, h3, h4, h5, h6, h7, h8, h9, -⟩ := h
  show (Cond.laysStatic C n d).holds args s none s [] = true
  exact Cond.laysStatic_of h1 h2 h3 h4 h5 h6 h7 h8 h9
/-- .. and what it holds: null or some reference -/
def vx_Zq (C n d : String) (A : Nat → Prop) (U : State) (H : Heap) : Prop := va_Zq C n d A U H ∧ vx_L C n d A U H
theorem vx_Zq.moved {C n d : String} {A : Nat → Prop} {u U : State} {H : Heap} (hvm : u.vm.Alike U.vm) (h : vx_Zq C n d A u H) : vx_Zq C n d A U H := ⟨va_Zq.moved hvm h.1, vx_L.moved hvm h.2⟩
theorem vx_Zq.kept {C n d : String} {A : Nat → Prop} {U : State} {H H1 : Heap} (h : vx_Zq C n d A U H) (hq : ∀ a : Nat, a < H.size → ¬ A a → H1[a]? = H[a]?) : vx_Zq C n d A U H1 := ⟨va_Zq.kept h.1 hq, vx_L.kept h.2 hq⟩
theorem vx_Zq.narrow {C n d : String} {A B : Nat → Prop} {U : State} {H : Heap} (h : vx_Zq C n d A U H) (hAB : ∀ q, B q → A q) : vx_Zq C n d B U H := ⟨va_Zq.narrow h.1 hAB, vx_L.narrow h.2 hAB⟩
theorem vx_Zqof {args : Array Value} {s : State} {C n d : String} {A : Nat → Prop} (hl : (Cond.laysStatic C n d).before args s = true) (hini : (Cond.initialized C).before args s = true) (h : (Cond.isRef (.static C n d)).before args s = true) (hA : ∀ a : Nat, a < s.heap.size → ¬ A a) : vx_Zq C n d A s s.heap := by
  refine ⟨va_Zqof hl hini h hA, ?_⟩
  obtain ⟨c, k, i, f, a, cell, h1, h2, h3, h4, h5, h6, h7, h8, h9⟩ := Cond.laysStatic_spec hl
  exact ⟨c, k, i, f, a, cell, h1, h2, h3, h4, h5, h6, h7, h8, h9, hA a (Array.getElem?_eq_some_iff.mp h5).1⟩
theorem vx_isRef {C n d : String} {v : Value} {A : Nat → Prop} {s : State} {args : Array Value} (h : va_Z C n d v A s s.heap) (hv : v.isRef = true) : (Cond.isRef (.static C n d)).before args s = true := by
  obtain ⟨cf, kf, fi, f, a, cell, h1, h2, h3, h4, h5, h6, h7, -⟩ := h
  have he : (Term.static C n d).eval args s none [] s = some v := by
    simp [Term.eval, State.fieldNamed?, h1, h2, h4, h5, h6, h7]
  simp only [Cond.before, Cond.holds, Cond.value, he]
  cases v <;> simp_all [Value.isRef]
theorem vx_isRefq {C n d : String} {A : Nat → Prop} {s : State} {args : Array Value} (h : va_Zq C n d A s s.heap) : (Cond.isRef (.static C n d)).before args s = true := by
  rcases h with h | ⟨t, h⟩
  · exact vx_isRef h rfl
  · exact vx_isRef h rfl
/-- the same frame, seen from here: as if the method were called anew in this heap -/
theorem vx_rebase {T : State} (X : Stand p l e R s m args below meth c T locs cells slots) {R' : Room} (hf : R'.frames ≤ R.frames) (hl : R'.locals ≤ R.locals) (hc : cells + R'.cells ≤ R.cells) (hs : slots + R'.slots ≤ R.slots) :
    Stand p l e R' ((T.setVm s.vm).setFrames (.invoking m args :: below)) m args below meth c T [] 0 0 := by
  have htop : (T.setVm s.vm).topJava?.isSome := X.here.top
  have hF : ((T.setVm s.vm).setFrames (.invoking m args :: below)).frames = .invoking m args :: below := State.frames_setFrames _ (State.cur_lt_of_top htop)
  obtain ⟨g₀, hg0⟩ := Option.isSome_iff_exists.mp htop
  obtain ⟨r, hr⟩ := State.topJava?_eq_some.mp hg0
  have hl9 : e.platform.stackLimits (T.setVm s.vm).me = e.platform.stackLimits s.me := X.limits
  have hb9 : (T.setVm s.vm).me.stackBytes = s.me.stackBytes := X.bytes
  refine ⟨X.admits, X.cas, X.clock, hF, ?_, X.hears, X.method, X.code, X.here, X.tail, X.warmed, ?_, ?_, ?_⟩
  · have h := X.room
    have hU : ((T.setVm s.vm).setFrames (.invoking m args :: below)).localsInUse = s.localsInUse := by
      rw [State.localsInUse_invoking hF (meth := meth) (c := c) X.method X.code, State.localsInUse_invoking X.frames X.method X.code]
    simp only [State.hasRoom, Bool.and_eq_true, decide_eq_true_eq] at h ⊢
    obtain ⟨⟨⟨⟨h1, h2, h3, h4, h5, h6⟩, h7⟩, h8⟩, h9⟩ := h
    rw [X.frames, List.length_cons] at h2 h3
    have q1 := X.heapSize
    have q2 := X.used
    simp only [hF, hU, List.length_cons, State.stackLimits_setFrames, State.stackBytes_setFrames, hl9, hb9]
    refine ⟨⟨⟨⟨by omega, by omega, by omega, by omega, by omega, h6⟩, ?_⟩, ?_⟩, X.book⟩
    · show T.heap.size + R'.cells ≤ e.platform.maxCells
      omega
    · show T.slotsUsed + R'.slots ≤ e.platform.maxSlots
      omega
  · rw [State.stackLimits_setFrames]; rfl
  · rw [State.stackBytes_setFrames]; rfl
  · refine ⟨?_, Nat.le_refl _, Nat.le_refl _, ?_, ?_, fun a c9 h9 => ⟨c9, h9, rfl, rfl, fun _ _ => rfl⟩⟩
    · obtain ⟨t, ht, -⟩ := State.frames_cons hr
      show T.setVm s.vm = { ((T.setVm s.vm).setFrames (.invoking m args :: below)).setFrames (T.setVm s.vm).frames with heap := T.heap, slotsUsed := T.slotsUsed }
      rw [State.setFrames_setFrames, State.setFrames_self ht]
      rfl
    · show T.slotsUsed = T.slotsUsed + ((T.heap.toList.drop T.heap.size).map (·.slots.size)).sum
      rw [List.drop_eq_nil_of_le (Nat.le_of_eq Array.length_toList)]
      rfl
    · show ((T.heap.toList.drop T.heap.size).map (·.slots.size)).sum ≤ 0
      rw [List.drop_eq_nil_of_le (Nat.le_of_eq Array.length_toList)]
      exact Nat.le_refl _
/-- 'throw new E()': new; dup; invokespecial; athrow -/
theorem vx_throw0 {cc : ByteArray} {pc : Nat} (hexec : p.tables.exec = Jvm.exec) (hb : c.code = cc) (hl : l.stackTraces = false) {own cls : String} {names : List String} {ik ic mc ms : Nat} {A : Nat → Prop}
    (hown : s.vm.findClass own = some m.cls) (hcls : Bundle.fit cls = true) (hnames : ∀ n ∈ names, Bundle.fit n = true)
    (hk : (Cond.classLink own ik cls).before args s = true) (hini : (Cond.initialized cls).before args s = true) (hat : ∀ w ∈ vx_at0 own ic cls names, w.before args s = true)
    (hgood : ∀ w ∈ Cond.classLink own ik cls :: Cond.initialized cls :: vx_at0 own ic cls names, vx_ot w = true)
    (hU : vx_Zq Bundle.tN "UNASSIGNED_STACK" Bundle.steD A s s.heap) (hN : vx_Zq Bundle.tN "SUPPRESSED_SENTINEL" Bundle.listD A s s.heap) (hS : va_S A s.heap H locs) (hsize : ls.size = c.maxLocals)
    (d0 : decode cc pc = .ok (.new ik, 3)) (d3 : decode cc (pc + 3) = .ok (.dup, 1)) (d4 : decode cc (pc + 4) = .ok (.invokespecial ic, 3)) (d7 : decode cc (pc + 7) = .ok (.athrow, 1))
    (hout : ∀ x ∈ c.exceptionTable.toList, covers x (pc + 7) = false)
    (hRframes : names.length + 3 < R.frames) (hRlocals : (rest.map fun v => v.category).sum + (13 * (names.length + 1) + 42) ≤ R.locals) (hRcells : cells + 1 ≤ R.cells) (hRslots : slots + 6 ≤ R.slots) (hlocks : meth.locks = false)
    (hx : ∀ t : State, s.vm.Alike t.vm → H.size ≤ t.heap.size → (∀ q : Nat, q < H.size → t.heap[q]? = H[q]?) → XC cls s t)
    (hf : ∀ z ∈ locs, free z.base) (hc : cells + 1 ≤ mc) (hs : slots + 6 ≤ ms) :
    W p l e R s m args below meth c H locs cells slots (vx_MQ below Qc XC args s mc ms free) (F0 m pc ls rest) := by
  intro T hT X
  have htr : e.platform.stackTraces = false := (show e.platform.stackTraces = l.stackTraces by rw [X.admits.platform]).trans hl
  have Y := vx_rebase X (R' := { frames := R.frames, locals := R.locals, cells := 1, slots := 6 }) (Nat.le_refl _) (Nat.le_refl _) hRcells hRslots
  obtain ⟨s', hA⟩ : ∃ z, z = (T.setVm s.vm).setFrames (.invoking m args :: below) := ⟨_, rfl⟩
  rw [← hA] at Y
  have hvm : s'.vm = s.vm := by rw [hA]; rfl
  have hhp : s'.heap = H := by rw [hA]; exact hT
  have hW0 : s.WarmedH s'.vm := by rw [hvm]; exact State.WarmedH.refl s
  have hat' : ∀ w ∈ vx_at0 own ic cls names, w.before args s' = true := fun w hw => vx_ot_at hW0 hvm.symm (hgood w (List.mem_cons_of_mem _ (List.mem_cons_of_mem _ hw))) (hat w hw)
  have hk' : (Cond.classLink own ik cls).before args s' = true := vx_ot_at hW0 hvm.symm (hgood _ List.mem_cons_self) hk
  have hini' : (Cond.initialized cls).before args s' = true := vx_ot_at hW0 hvm.symm (hgood _ (List.mem_cons_of_mem _ List.mem_cons_self)) hini
  have hU' : vx_Zq Bundle.tN "UNASSIGNED_STACK" Bundle.steD A s' s'.heap := by rw [hhp]; exact vx_Zq.moved hW0.alike (hU.kept hS.2.1)
  have hN' : vx_Zq Bundle.tN "SUPPRESSED_SENTINEL" Bundle.listD A s' s'.heap := by rw [hhp]; exact vx_Zq.moved hW0.alike (hN.kept hS.2.1)
  have h : ∀ w ∈ Bundle.ownAtoms0 own ic cls names, w.before args s' = true := vx_own hat' (vx_isRefq hU'.1) (vx_isRefq hN'.1) hU'.2.word hN'.2.word
  have hown' : s'.vm.findClass own = some m.cls := by rw [hvm]; exact hown
  have hins : (Cond.instantiable cls 6).before args s' = true := h _ (by simp [Bundle.ownAtoms0])
  obtain ⟨vm₁, cX, kX, hfX, hkX, -, -, X₁, st1⟩ := Y.newCold hexec (own := own) (C := cls) (index := ik) (n := 6) hown' hk' hins hini'
    (g := F0 m pc ls rest) rfl (by rw [hb]; exact d0) (Nat.le_refl _) (Nat.le_refl _)
  generalize hT1 : (T.setVm vm₁).pushCell { cls := cX, slots := kX.instanceTypes.map defaultValue, vm := .none } = T1 at X₁ st1
  have hcat : (Value.ref T.heap.size).category = 1 := rfl
  have hcellA : T1.heap[T.heap.size]? = some (freshCell cX kX) := by rw [← hT1]; exact State.heap_pushCell_size _ _
  have d3' : decode c.code (pc + 3) = .ok (.dup, 1) := by rw [hb]; exact d3
  obtain ⟨U, hsteps, hrun, hend, hW, hsame, ce, hce, hO⟩ := X₁.ctorThrow0 hexec htr (own := own) (cls := cls) (names := names) (ic := ic) hown' hcls hnames h (fun x hx => nomatch hx) hfX hkX hcellA (by rw [hhp, hT]; exact Nat.le_refl _)
    (g := { method := m, pc := pc + 4, locals := ls, stack := .ref T.heap.size :: .ref T.heap.size :: rest, locked := none }) rfl hsize rfl rfl (rest := rest) rfl
    (by rw [hb]; exact d4) (by rw [hb]; exact d7) hout hRframes (by simp only [List.map_cons, List.sum_cons, hcat]; omega) hlocks
  obtain ⟨f1, f2⟩ := vx_frame hsame
  rw [hhp] at f1 f2
  have hWs : s.WarmedH U.vm := State.WarmedH.trans hW0 hW
  have hcl : s.vm.findClass cls = some ce.cls := by
    have h9 := hO.cls
    rw [hvm] at h9
    exact h9
  have hall : s.sameButNew ({ U with vm := s.vm } : State) locs mc ms := by
    subst hA
    obtain ⟨e1, e2⟩ := hsame
    rw [State.setFrames_setFrames] at e1
    have h2 : (T.setVm s.vm).sameButNew ({ U with vm := s.vm } : State) [] (0 + 1) (0 + 6) := ⟨e1, e2⟩
    have h3 := X.same.trans h2
    rw [List.append_nil] at h3
    exact h3.mono hc hs
  refine ⟨U, ?_, .threw T.heap.size, hrun, hend, Or.inr ⟨T.heap.size, rfl, cls, ce, locs, hx U hWs.alike f1 (fun q hq => f2 q hq (fun z hz => nomatch hz)), hce, hO.vm, hcl, hWs, hall, hf⟩⟩
  refine st1 _ ?_
  show Steps p.tables e below (T1.setTop { method := m, pc := pc + 3, locals := ls, stack := .ref T.heap.size :: rest, locked := none }) _
  jvm_step X₁.here [X₁.here.top, hexec, d3', Value.category]
  exact hsteps
/-- 'throw new E("text")': new; dup; ldc; invokespecial; athrow -/
theorem vx_throwS {cc : ByteArray} {pc : Nat} (hexec : p.tables.exec = Jvm.exec) (hb : c.code = cc) (hl : l.stackTraces = false) {own cls text : String} {names : List String} {ik is ic mc ms sa : Nat} {A : Nat → Prop}
    (hown : s.vm.findClass own = some m.cls) (hcls : Bundle.fit cls = true) (hnames : ∀ n ∈ names, Bundle.fit n = true)
    (hk : (Cond.classLink own ik cls).before args s = true) (hini : (Cond.initialized cls).before args s = true) (hstr : vk_R own is text sa s) (hat : ∀ w ∈ vx_atS own ic cls names, w.before args s = true)
    (hgood : ∀ w ∈ Cond.classLink own ik cls :: Cond.initialized cls :: vx_atS own ic cls names, vx_ot w = true)
    (hU : vx_Zq Bundle.tN "UNASSIGNED_STACK" Bundle.steD A s s.heap) (hN : vx_Zq Bundle.tN "SUPPRESSED_SENTINEL" Bundle.listD A s s.heap) (hS : va_S A s.heap H locs) (hsize : ls.size = c.maxLocals)
    (d0 : decode cc pc = .ok (.new ik, 3)) (d3 : decode cc (pc + 3) = .ok (.dup, 1)) (d4 : decode cc (pc + 4) = .ok (.ldc is, 2)) (d6 : decode cc (pc + 6) = .ok (.invokespecial ic, 3)) (d9 : decode cc (pc + 9) = .ok (.athrow, 1))
    (hout : ∀ x ∈ c.exceptionTable.toList, covers x (pc + 9) = false)
    (hRframes : names.length + 3 < R.frames) (hRlocals : (rest.map fun v => v.category).sum + (13 * (names.length + 1) + 43) ≤ R.locals) (hRcells : cells + 1 ≤ R.cells) (hRslots : slots + 6 ≤ R.slots) (hlocks : meth.locks = false)
    (hx : ∀ t : State, s.vm.Alike t.vm → H.size ≤ t.heap.size → (∀ q : Nat, q < H.size → t.heap[q]? = H[q]?) → XC cls s t)
    (hf : ∀ z ∈ locs, free z.base) (hc : cells + 1 ≤ mc) (hs : slots + 6 ≤ ms) :
    W p l e R s m args below meth c H locs cells slots (vx_MQ below Qc XC args s mc ms free) (F0 m pc ls rest) := by
  intro T hT X
  have htr : e.platform.stackTraces = false := (show e.platform.stackTraces = l.stackTraces by rw [X.admits.platform]).trans hl
  have Y := vx_rebase X (R' := { frames := R.frames, locals := R.locals, cells := 1, slots := 6 }) (Nat.le_refl _) (Nat.le_refl _) hRcells hRslots
  obtain ⟨s', hA⟩ : ∃ z, z = (T.setVm s.vm).setFrames (.invoking m args :: below) := ⟨_, rfl⟩
  rw [← hA] at Y
  have hvm : s'.vm = s.vm := by rw [hA]; rfl
  have hhp : s'.heap = H := by rw [hA]; exact hT
  have hW0 : s.WarmedH s'.vm := by rw [hvm]; exact State.WarmedH.refl s
  have hat' : ∀ w ∈ vx_atS own ic cls names, w.before args s' = true := fun w hw => vx_ot_at hW0 hvm.symm (hgood w (List.mem_cons_of_mem _ (List.mem_cons_of_mem _ hw))) (hat w hw)
  have hk' : (Cond.classLink own ik cls).before args s' = true := vx_ot_at hW0 hvm.symm (hgood _ List.mem_cons_self) hk
  have hini' : (Cond.initialized cls).before args s' = true := vx_ot_at hW0 hvm.symm (hgood _ (List.mem_cons_of_mem _ List.mem_cons_self)) hini
  have hU' : vx_Zq Bundle.tN "UNASSIGNED_STACK" Bundle.steD A s' s'.heap := by rw [hhp]; exact vx_Zq.moved hW0.alike (hU.kept hS.2.1)
  have hN' : vx_Zq Bundle.tN "SUPPRESSED_SENTINEL" Bundle.listD A s' s'.heap := by rw [hhp]; exact vx_Zq.moved hW0.alike (hN.kept hS.2.1)
  have h : ∀ w ∈ Bundle.ownAtoms own ic cls names, w.before args s' = true := vx_own hat' (vx_isRefq hU'.1) (vx_isRefq hN'.1) hU'.2.word hN'.2.word
  have hown' : s'.vm.findClass own = some m.cls := by rw [hvm]; exact hown
  have hins : (Cond.instantiable cls 6).before args s' = true := h _ (by simp [Bundle.ownAtoms])
  obtain ⟨vm₁, cX, kX, hfX, hkX, -, -, X₁, st1⟩ := Y.newCold hexec (own := own) (C := cls) (index := ik) (n := 6) hown' hk' hins hini'
    (g := F0 m pc ls rest) rfl (by rw [hb]; exact d0) (Nat.le_refl _) (Nat.le_refl _)
  generalize hT1 : (T.setVm vm₁).pushCell { cls := cX, slots := kX.instanceTypes.map defaultValue, vm := .none } = T1 at X₁ st1
  have hcat : (Value.ref T.heap.size).category = 1 := rfl
  have hcellA : T1.heap[T.heap.size]? = some (freshCell cX kX) := by rw [← hT1]; exact State.heap_pushCell_size _ _
  have d3' : decode c.code (pc + 3) = .ok (.dup, 1) := by rw [hb]; exact d3
  have d4' : decode c.code (pc + 4) = .ok (.ldc is, 2) := by rw [hb]; exact d4
  have hstr' : vk_R own is text sa s' := vk_R.warm hW0 hstr
  obtain ⟨U, hsteps, hrun, hend, hW, hsame, ce, hce, hO⟩ := X₁.ctorThrowS hexec htr (own := own) (cls := cls) (names := names) (ic := ic) hown' hcls hnames h (fun x hx => nomatch hx) hfX hkX hcellA (by rw [hhp, hT]; exact Nat.le_refl _) (msg := .ref sa) rfl
    (g := { method := m, pc := pc + 6, locals := ls, stack := .ref sa :: .ref T.heap.size :: .ref T.heap.size :: rest, locked := none }) rfl hsize rfl rfl (rest := rest) rfl
    (by rw [hb]; exact d6) (by rw [hb]; exact d9) hout hRframes (by simp only [List.map_cons, List.sum_cons, hcat]; omega) hlocks
  obtain ⟨f1, f2⟩ := vx_frame hsame
  rw [hhp] at f1 f2
  have hWs : s.WarmedH U.vm := State.WarmedH.trans hW0 hW
  have hcl : s.vm.findClass cls = some ce.cls := by
    have h9 := hO.cls
    rw [hvm] at h9
    exact h9
  have hall : s.sameButNew ({ U with vm := s.vm } : State) locs mc ms := by
    subst hA
    obtain ⟨e1, e2⟩ := hsame
    rw [State.setFrames_setFrames] at e1
    have h2 : (T.setVm s.vm).sameButNew ({ U with vm := s.vm } : State) [] (0 + 1) (0 + 6) := ⟨e1, e2⟩
    have h3 := X.same.trans h2
    rw [List.append_nil] at h3
    exact h3.mono hc hs
  refine ⟨U, ?_, .threw T.heap.size, hrun, hend, Or.inr ⟨T.heap.size, rfl, cls, ce, locs, hx U hWs.alike f1 (fun q hq => f2 q hq (fun z hz => nomatch hz)), hce, hO.vm, hcl, hWs, hall, hf⟩⟩
  refine st1 _ ?_
  show Steps p.tables e below (T1.setTop { method := m, pc := pc + 3, locals := ls, stack := .ref T.heap.size :: rest, locked := none }) _
  jvm_step X₁.here [X₁.here.top, hexec, d3', Value.category]
  exact X₁.ldcString hexec (own := own) (text := text) (index := is) (a := sa) hown' hstr'.1 hstr'.2
    (g := { method := m, pc := pc + 4, locals := ls, stack := .ref T.heap.size :: .ref T.heap.size :: rest, locked := none }) rfl d4' _ hsteps
/-- 'throw new E("text")', the text by a wide index -/
theorem vx_throwSW {cc : ByteArray} {pc : Nat} (hexec : p.tables.exec = Jvm.exec) (hb : c.code = cc) (hl : l.stackTraces = false) {own cls text : String} {names : List String} {ik is ic mc ms sa : Nat} {A : Nat → Prop}
    (hown : s.vm.findClass own = some m.cls) (hcls : Bundle.fit cls = true) (hnames : ∀ n ∈ names, Bundle.fit n = true)
    (hk : (Cond.classLink own ik cls).before args s = true) (hini : (Cond.initialized cls).before args s = true) (hstr : vk_R own is text sa s) (hat : ∀ w ∈ vx_atS own ic cls names, w.before args s = true)
    (hgood : ∀ w ∈ Cond.classLink own ik cls :: Cond.initialized cls :: vx_atS own ic cls names, vx_ot w = true)
    (hU : vx_Zq Bundle.tN "UNASSIGNED_STACK" Bundle.steD A s s.heap) (hN : vx_Zq Bundle.tN "SUPPRESSED_SENTINEL" Bundle.listD A s s.heap) (hS : va_S A s.heap H locs) (hsize : ls.size = c.maxLocals)
    (d0 : decode cc pc = .ok (.new ik, 3)) (d3 : decode cc (pc + 3) = .ok (.dup, 1)) (d4 : decode cc (pc + 4) = .ok (.ldc_w is, 3)) (d7 : decode cc (pc + 7) = .ok (.invokespecial ic, 3)) (d10 : decode cc (pc + 10) = .ok (.athrow, 1))
    (hout : ∀ x ∈ c.exceptionTable.toList, covers x (pc + 10) = false)
    (hRframes : names.length + 3 < R.frames) (hRlocals : (rest.map fun v => v.category).sum + (13 * (names.length + 1) + 43) ≤ R.locals) (hRcells : cells + 1 ≤ R.cells) (hRslots : slots + 6 ≤ R.slots) (hlocks : meth.locks = false)
    (hx : ∀ t : State, s.vm.Alike t.vm → H.size ≤ t.heap.size → (∀ q : Nat, q < H.size → t.heap[q]? = H[q]?) → XC cls s t)
    (hf : ∀ z ∈ locs, free z.base) (hc : cells + 1 ≤ mc) (hs : slots + 6 ≤ ms) :
    W p l e R s m args below meth c H locs cells slots (vx_MQ below Qc XC args s mc ms free) (F0 m pc ls rest) := by
  intro T hT X
  have htr : e.platform.stackTraces = false := (show e.platform.stackTraces = l.stackTraces by rw [X.admits.platform]).trans hl
  have Y := vx_rebase X (R' := { frames := R.frames, locals := R.locals, cells := 1, slots := 6 }) (Nat.le_refl _) (Nat.le_refl _) hRcells hRslots
  obtain ⟨s', hA⟩ : ∃ z, z = (T.setVm s.vm).setFrames (.invoking m args :: below) := ⟨_, rfl⟩
  rw [← hA] at Y
  have hvm : s'.vm = s.vm := by rw [hA]; rfl
  have hhp : s'.heap = H := by rw [hA]; exact hT
  have hW0 : s.WarmedH s'.vm := by rw [hvm]; exact State.WarmedH.refl s
  have hat' : ∀ w ∈ vx_atS own ic cls names, w.before args s' = true := fun w hw => vx_ot_at hW0 hvm.symm (hgood w (List.mem_cons_of_mem _ (List.mem_cons_of_mem _ hw))) (hat w hw)
  have hk' : (Cond.classLink own ik cls).before args s' = true := vx_ot_at hW0 hvm.symm (hgood _ List.mem_cons_self) hk
  have hini' : (Cond.initialized cls).before args s' = true := vx_ot_at hW0 hvm.symm (hgood _ (List.mem_cons_of_mem _ List.mem_cons_self)) hini
  have hU' : vx_Zq Bundle.tN "UNASSIGNED_STACK" Bundle.steD A s' s'.heap := by rw [hhp]; exact vx_Zq.moved hW0.alike (hU.kept hS.2.1)
  have hN' : vx_Zq Bundle.tN "SUPPRESSED_SENTINEL" Bundle.listD A s' s'.heap := by rw [hhp]; exact vx_Zq.moved hW0.alike (hN.kept hS.2.1)
  have h : ∀ w ∈ Bundle.ownAtoms own ic cls names, w.before args s' = true := vx_own hat' (vx_isRefq hU'.1) (vx_isRefq hN'.1) hU'.2.word hN'.2.word
  have hown' : s'.vm.findClass own = some m.cls := by rw [hvm]; exact hown
  have hins : (Cond.instantiable cls 6).before args s' = true := h _ (by simp [Bundle.ownAtoms])
  obtain ⟨vm₁, cX, kX, hfX, hkX, -, -, X₁, st1⟩ := Y.newCold hexec (own := own) (C := cls) (index := ik) (n := 6) hown' hk' hins hini'
    (g := F0 m pc ls rest) rfl (by rw [hb]; exact d0) (Nat.le_refl _) (Nat.le_refl _)
  generalize hT1 : (T.setVm vm₁).pushCell { cls := cX, slots := kX.instanceTypes.map defaultValue, vm := .none } = T1 at X₁ st1
  have hcat : (Value.ref T.heap.size).category = 1 := rfl
  have hcellA : T1.heap[T.heap.size]? = some (freshCell cX kX) := by rw [← hT1]; exact State.heap_pushCell_size _ _
  have d3' : decode c.code (pc + 3) = .ok (.dup, 1) := by rw [hb]; exact d3
  have d4' : decode c.code (pc + 4) = .ok (.ldc_w is, 3) := by rw [hb]; exact d4
  have hstr' : vk_R own is text sa s' := vk_R.warm hW0 hstr
  obtain ⟨U, hsteps, hrun, hend, hW, hsame, ce, hce, hO⟩ := X₁.ctorThrowS hexec htr (own := own) (cls := cls) (names := names) (ic := ic) hown' hcls hnames h (fun x hx => nomatch hx) hfX hkX hcellA (by rw [hhp, hT]; exact Nat.le_refl _) (msg := .ref sa) rfl
    (g := { method := m, pc := pc + 7, locals := ls, stack := .ref sa :: .ref T.heap.size :: .ref T.heap.size :: rest, locked := none }) rfl hsize rfl rfl (rest := rest) rfl
    (by rw [hb]; exact d7) (by rw [hb]; exact d10) hout hRframes (by simp only [List.map_cons, List.sum_cons, hcat]; omega) hlocks
  obtain ⟨f1, f2⟩ := vx_frame hsame
  rw [hhp] at f1 f2
  have hWs : s.WarmedH U.vm := State.WarmedH.trans hW0 hW
  have hcl : s.vm.findClass cls = some ce.cls := by
    have h9 := hO.cls
    rw [hvm] at h9
    exact h9
  have hall : s.sameButNew ({ U with vm := s.vm } : State) locs mc ms := by
    subst hA
    obtain ⟨e1, e2⟩ := hsame
    rw [State.setFrames_setFrames] at e1
    have h2 : (T.setVm s.vm).sameButNew ({ U with vm := s.vm } : State) [] (0 + 1) (0 + 6) := ⟨e1, e2⟩
    have h3 := X.same.trans h2
    rw [List.append_nil] at h3
    exact h3.mono hc hs
  refine ⟨U, ?_, .threw T.heap.size, hrun, hend, Or.inr ⟨T.heap.size, rfl, cls, ce, locs, hx U hWs.alike f1 (fun q hq => f2 q hq (fun z hz => nomatch hz)), hce, hO.vm, hcl, hWs, hall, hf⟩⟩
  refine st1 _ ?_
  show Steps p.tables e below (T1.setTop { method := m, pc := pc + 3, locals := ls, stack := .ref T.heap.size :: rest, locked := none }) _
  jvm_step X₁.here [X₁.here.top, hexec, d3', Value.category]
  exact X₁.ldcStringW hexec (own := own) (text := text) (index := is) (a := sa) hown' hstr'.1 hstr'.2
    (g := { method := m, pc := pc + 4, locals := ls, stack := .ref T.heap.size :: .ref T.heap.size :: rest, locked := none }) rfl d4' _ hsteps
end Ends
section Bodies
variable {l : Launch}
theorem vx_ofW {y : MethodName} {ws ws' : List Cond} {rm : Room} {Pc : Array Value → State → Prop} {Qc : Array Value → State → Outcome → State → Prop} {XC : String → State → State → Prop} {mc ms : Nat} {free : Addr → Prop} {cc : ByteArray} {maxL : Nat} {ret : Option FieldType}
    (hy : plainName y.cls = true) (hw : ws = Cond.code y cc maxL ret :: ws')
    (body : ∀ p e s m args below meth c s₁, BodyLoose p l y (headSpec ws rm) cc maxL ret e s m args below meth c s₁ → c.maxLocals = maxL → (∀ x ∈ c.exceptionTable.toList, False) → Pc args s →
      W p l e (headSpec ws rm).room s m args below meth c s.heap [] 0 0 (vx_MQ below Qc XC args s mc ms free) (entryFrame m args maxL)) : vx_Met l y ws rm Pc Qc XC mc ms free := by
  refine MetFree.of_bodyS (code := cc) (maxLocals := maxL) (ret := ret) hy ?_ ?_
  · intro args s m h hn
    obtain ⟨meth, c, h1, h2, h3, h4, h5, h6, -, -⟩ := Cond.code_spec hn (atoms_spec (ws := ws) h _ (by rw [hw]; exact List.mem_cons_self))
    exact ⟨meth, c, h1, h2, h3, h4, h5, h6⟩
  · intro p e s m args below meth c s₁ B hml hP _
    have hh0 : s₁.heap = s.heap := by rw [B.state]; rfl
    have ht : ∀ x ∈ c.exceptionTable.toList, False := by
      obtain ⟨meth9, c9, h1, h2, -, -, -, -, h7, -⟩ := Cond.code_spec B.named (atoms_spec (ws := ws) B.pre _ (by rw [hw]; exact List.mem_cons_self))
      cases Option.some.inj (h1.symm.trans B.method)
      cases Option.some.inj (h2.symm.trans (Stand.of_body B).code)
      intro x hx
      rw [Array.isEmpty_iff.mp h7] at hx
      cases hx
    obtain ⟨t, a1, o, b1, b2, b3⟩ := body p e s m args below meth c s₁ B hml ht hP s₁ hh0 (Stand.of_body B)
    exact ⟨t, o, a1, b1, b2, b3⟩
/-- the table of a body with handlers -/
theorem vx_table {p : Program} {x y : MethodName} {S : Spec} {cc bytes : ByteArray} {maxL maxL' : Nat} {ret ret' : Option FieldType} {e : Env} {s s₁ : State} {m : MethodId} {args : Array Value} {below : List Frame} {meth : Method} {c : Code} {hh : List (Nat × Nat × Nat × Nat)}
    (B : BodyLoose p l y S cc maxL ret e s m args below meth c s₁) (h : (Cond.codeWith y bytes maxL' ret' hh).before args s = true) : c.exceptionTable.toList = tableOf hh := by
  obtain ⟨m9, meth9, c9, hn9, h1, h2, -, -, h6, -⟩ := Cond.codeWith_spec h
  cases Option.some.inj (hn9.symm.trans B.named)
  cases Option.some.inj (h1.symm.trans B.method)
  cases Option.some.inj (h2.symm.trans (Stand.of_body B).code)
  rw [← h6, table_eq]
end Bodies
end VXA
/-! ===== END ===== -/
/-! ===== BEGIN a static call of a method with an exception table ===== -/
section VXS
variable {p : Program} {l : Launch} {e : Env} {R : Room} {s : State} {m : MethodId} {args : Array Value} {below : List Frame} {meth : Method} {c : Code} {T : State} {H : Heap} {locs : List Loc} {cells slots : Nat}
abbrev vx_CSW (R : Room) (s : State) (args : Array Value) (own : String) (index : Nat) (y : MethodName) (bytes : ByteArray) (maxL : Nat) (ret : Option FieldType) (hh : List (Nat × Nat × Nat × Nat)) (ws : List Cond) (rm : Room) (mc ms n : Nat) : Prop :=
  (rm.cells = mc ∧ rm.slots = ms ∧ rm.frames + 1 ≤ R.frames ∧ 8 + (maxL + 11) + rm.locals ≤ R.locals ∧ (∀ w ∈ ws, ∀ (a' : Array Value) (U : State), s.WarmedH U.vm → w.before a' U = true) ∧ Cond.codeWith y bytes maxL ret hh ∈ ws) ∧
  (Cond.codeWith y bytes maxL ret hh).before args s = true ∧ (Cond.initialized y.cls).before args s = true ∧ (y.cls ≠ "java/lang/invoke/MethodHandle" ∧ y.cls ≠ "java/lang/invoke/VarHandle") ∧
  (∀ sig, parseMethodDescriptor y.desc = some sig → n = sig.parameters.length) ∧ (Cond.methodLink own index y).before args s = true ∧ (Cond.static y).before args s = true
theorem vx_cwSW {own : String} {index maxL mc ms : Nat} {y : MethodName} {bytes : ByteArray} {ret : Option FieldType} {hh : List (Nat × Nat × Nat × Nat)} {Ts ws ws' : List Cond} {rm : Room} (n : Nat) (ht : ∀ w ∈ Ts, w.before args s = true) (hT : GoodIn Ts (va_wsS own index y ws)) (hw : ws = Cond.codeWith y bytes maxL ret hh :: ws') (hrc : rm.cells = mc) (hrs : rm.slots = ms)
    (hd : y.cls ≠ "java/lang/invoke/MethodHandle" ∧ y.cls ≠ "java/lang/invoke/VarHandle" ∧ (parseMethodDescriptor y.desc).map (fun d => d.parameters.length) = some n) (hR : rm.frames + 1 ≤ R.frames ∧ 8 + (maxL + 11) + rm.locals ≤ R.locals) :
    vx_CSW R s args own index y bytes maxL ret hh ws rm mc ms n := by
  have ok : ∀ w ∈ va_wsS own index y ws, w.before args s = true := fun w h => ht w (hT w h).1
  have hG : GoodIn Ts ws := fun w h => hT w (by unfold va_wsS; exact List.mem_append_right _ h)
  have hc : Cond.codeWith y bytes maxL ret hh ∈ ws := by rw [hw]; exact List.mem_cons_self
  refine ⟨⟨hrc, hrs, hR.1, hR.2, pay_in ht hG, hc⟩, ht _ (hG _ hc).1, ok _ (by simp [va_wsS]), ⟨hd.1, hd.2.1⟩, fun sig h => ?_, ok _ (by simp [va_wsS]), ok _ (by simp [va_wsS])⟩
  have h2 := hd.2.2
  rw [h] at h2
  exact (Option.some.inj h2).symm
theorem vx_callSW (X : Stand p l e R s m args below meth c T locs cells slots) (hexec : p.tables.exec = Jvm.exec) {own : String} {index : Nat} {y : MethodName} {bytes : ByteArray} {maxL : Nat} {ret : Option FieldType} {hh : List (Nat × Nat × Nat × Nat)}
    (hown : s.vm.findClass own = some m.cls) (hlink : (Cond.methodLink own index y).before args s = true) (hstat : (Cond.static y).before args s = true) (hinit : (Cond.initialized y.cls).before args s = true)
    (hcode : (Cond.codeWith y bytes maxL ret hh).before args s = true) (hy : y.cls ≠ "java/lang/invoke/MethodHandle" ∧ y.cls ≠ "java/lang/invoke/VarHandle")
    {W9 : Nat} {Pre : Pt → Array Value → Prop} {Post : Pt → Array Value → Option Value → Pt → Prop} (hK : Back l R p e below s args y 3 W9 Pre Post)
    {g : JFrame} (hg : g.method = m) (hsize : g.locals.size = c.maxLocals) {argsL rest : List Value} (hlen : ∀ sig, parseMethodDescriptor y.desc = some sig → argsL.length = sig.parameters.length)
    (hstack : g.stack = argsL.reverse ++ rest) (hW : 2 * g.monitorRoom + (rest.map fun v => v.category).sum ≤ W9) (hdg : decode c.code g.pc = .ok (.invokestatic index, 3))
    (hpre : ∀ vm₁, s.WarmedH vm₁ → Pre ⟨T.setVm vm₁, locs, cells, slots⟩ argsL.toArray) :
    ∃ (v : Option Value) (vm₁ : Vm) (B : Pt), s.WarmedH vm₁ ∧ Stand p l e R s m args below meth c B.U B.locs B.cells B.slots ∧ Post ⟨T.setVm vm₁, locs, cells, slots⟩ argsL.toArray v B ∧
      ∀ target, Steps p.tables e below (B.U.setTop { g with pc := g.pc + 3, stack := v.toList ++ rest }) target → Steps p.tables e below (T.setTop g) target := by
  obtain ⟨mk, methM, cM, hnamed, hmethM, -, -, -, -, -, -, hsigM⟩ := Cond.codeWith_spec hcode
  have hstatic : methM.isStatic = true := Cond.static_spec hnamed hmethM hstat
  obtain ⟨kP, hkP, -⟩ := className_of_methodNamed hnamed
  have hinitP : kP.init = .initialized := Cond.initialized_spec (findClass_of_methodNamed hnamed) hkP hinit
  obtain ⟨vm₁, X₁, hstep₁⟩ := X.invokestatic hexec hown hlink hnamed hmethM hstatic hkP hinitP hy (g := g) hg (argsL := argsL) (rest := rest) (hlen _ hsigM) hstack hdg
  obtain ⟨v, B, X', hpost, hsteps⟩ := hK m meth c ⟨T.setVm vm₁, locs, cells, slots⟩ { g with stack := rest } (.invokestatic index) mk argsL.toArray X₁ hg hsize hdg hW (X₁.named hnamed) (hpre vm₁ X₁.warmed)
  exact ⟨v, vm₁, B, X₁.warmed, X', hpost, fun target h => hstep₁ _ fun acts => by rw [doInvoke_state]; exact hsteps.trans h⟩
theorem vx_runSW {y : MethodName} {bytes cc : ByteArray} {maxL nL mc ms n index : Nat} {ret : Option FieldType} {hh : List (Nat × Nat × Nat × Nat)} {ws : List Cond} {rm : Room} {Pc : Array Value → State → Prop} {Qc : Array Value → State → Outcome → State → Prop} {free : Addr → Prop} {Ts : List Cond} {own : String} {As rest : List Value} {g : JFrame}
    (S : CallFix p m c cc nL s args Ts own) (hM : Met l y ws rm Pc Qc mc ms free) (cw : vx_CSW R s args own index y bytes maxL ret hh ws rm mc ms n) (hp : PreS s H Pc As)
    (hg : g.method = m) (hn : As.length = n) (hsize : g.locals.size = nL) (hstack : g.stack = As.reverse ++ rest) (hW : 2 * g.monitorRoom + (rest.map fun v => v.category).sum ≤ 8) (hdg : decode cc g.pc = .ok (.invokestatic index, 3)) (hf : cells + mc ≤ R.cells ∧ slots + ms ≤ R.slots) :
    va_Run p l e R s m args below meth c H locs cells slots mc ms g rest (Qc As.toArray) (free) := by
  obtain ⟨⟨hrc, hrs, hfr, hlo, hws, hcw⟩, hcode, hini, hy, hlen, hl, hstt⟩ := cw
  have hK : Back l R p e below s args y 3 8 (PreOf R mc ms Pc) (PostOf Qc mc ms free) := va_backW (hh := hh) (bytes := bytes) (maxL := maxL) (ret := ret) hM hp.1 hrc hrs hfr hlo hws hcw (fun a' U hW => word_at hW (Or.inl (by first | rfl | simp [Cond.onTables, Cond.keeps, Cond.steady])) hini)
  obtain ⟨hx, hb, hml, ho, -⟩ := S
  intro T hT X
  obtain ⟨v, vm₁, ⟨U', l2, c2, s2⟩, hW₁, X', ⟨g', mk, t, L, e1, e2, hq, h1, hL, h2, h3⟩, st⟩ := vx_callSW X hx (hh := hh) (bytes := bytes) (maxL := maxL) (ret := ret) ho hl hstt hini hcode hy hK hg (hsize.trans hml.symm) (argsL := As) (rest := rest) (fun sig h => hn.trans (hlen sig h)) hstack hW (by rw [hb]; exact hdg)
    (fun vm₁ hW₁ => ⟨hf.1, hf.2, hp.2 (T.setVm vm₁) hT hW₁⟩)
  dsimp only [Pt.U, Pt.locs, Pt.cells, Pt.slots] at X' e1 e2 h1 h2 h3 st
  subst h1; subst h2; subst h3
  exact ⟨v, (T.setVm vm₁).calling g' mk As.toArray, t, U', L, hT, X', hL, e1, e2, hq, st⟩
/-- not caught here, past rows that name other classes: it goes on to the caller -/
theorem vx_outP {p : Program} {l : Launch} {e : Env} {R : Room} {s : State} {m : MethodId} {args : Array Value} {below : List Frame} {meth : Method} {c : Code} {H : Heap} {locs : List Loc} {cells slots : Nat} {free : Addr → Prop} {ls : Array Slot} {rest : List Value} {Qc : Array Value → State → Outcome → State → Prop} {XC : String → State → State → Prop}
    {pc : Nat} {own E : String} {ce : Cell} {q : Addr} {mc ms : Nat} (hown : s.vm.findClass own = some m.cls) (hlocks : meth.locks = false)
    (hpass : ∀ z ∈ c.exceptionTable.toList, covers z pc = false ∨ (z.catchType ≠ 0 ∧ ∃ nm : String, (Cond.classLink own z.catchType nm).before args s = true ∧ va_Nc E nm s)) (hcell : H[q]? = some ce) (hv : ce.vm = .none) (hcl : s.vm.findClass E = some ce.cls)
    (hx : ∀ t : State, t.heap = H → s.vm.Alike t.vm → XC E s t) (hf : ∀ z ∈ locs, free z.base) (hc : cells ≤ mc) (hs : slots ≤ ms) :
    vx_W p l e R s m args below meth c H locs cells slots (vx_MQ below Qc XC args s mc ms free) (F0 m pc ls rest) q := by
  intro T hT X
  have hpl : e.platform.magicAccessors = ({} : Platform).magicAccessors := by rw [X.admits.platform]
  obtain ⟨vm', hW', X', st⟩ := X.outThrough hlocks q (g := F0 m pc ls rest) rfl rfl rfl (cell := ce) (by rw [hT]; exact hcell) (by rw [hv]; rfl)
    (by obtain ⟨k9, h9, -⟩ := Vm.findClass_spec hcl; exact ⟨k9, h9⟩) (fun z hz => by
      rcases hpass z hz with h | ⟨hz0, nm, hl1, hn1⟩
      · exact Or.inl h
      · obtain ⟨c6, hc6, hcl6⟩ := Cond.classLink_spec hown hl1 e.platform hpl
        obtain ⟨a8, b8, h1, h2, h3⟩ := hn1
        cases Option.some.inj (h1.symm.trans hcl)
        cases Option.some.inj (h2.symm.trans hc6)
        exact Or.inr ⟨hz0, _, hcl6, h3⟩)
  obtain ⟨g₀, hfr⟩ := X'.frames_eq
  have hcell9 : ((T.setVm vm').setFrames (.throwing q :: below)).heap[q]? = some ce := by
    show T.heap[q]? = some ce
    rw [hT]; exact hcell
  have hend : Ended ((T.setVm vm').setFrames (.throwing q :: below)) below (.threw q) := State.frames_setFrames _ (State.cur_lt_of_frames hfr)
  refine ⟨(T.setVm vm').setFrames (.throwing q :: below), ?_, .threw q, X'.here.running, hend, Or.inr ⟨q, rfl, E, ce, locs, hx _ hT (X'.ends _).1.alike, hcell9, hv, hcl, (X'.ends _).1, (X'.ends _).2.mono hc hs, hf⟩⟩
  rw [X.pushThrowing_eq]
  exact st
/-- a thing of a world lies in the heap -/
theorem vx_lt {D : va_G} {cl : List vw_C} {ws : va_W} {H1 : Heap} (h : va_P D cl ws H1) {k : Nat} {q : Nat × va_E} (hk : ws[k]? = some q) : q.1 < H1.size := (h k q hk).lt
end VXS
/-! ===== END ===== -/
/-! ===== BEGIN methods with a table of their own: called by a name, returning or throwing ===== -/
section VXH
/-! vx_backW, vx_callVX, vx_callSX, vx_callVW, vx_runVW, vx_runVX, vx_runSX, vx_ofWH follow the same proofs as their sisters above (Free/Laws.lean, Shelf42/LK1.lean); vx_outP calls Shelf42/NT130.lean (outThrough). -/
section
variable {l : Launch} {R : Room} {p : Program} {e : Env} {below : List Frame} {s : State} {sargs : Array Value} {y : MethodName} {len W9 : Nat}
theorem vx_backW {ws : List Cond} {rm : Room} {Pc : Array Value → State → Prop} {Qc : Array Value → State → Outcome → State → Prop} {XC : String → State → State → Prop} {mc ms : Nat} {free : Addr → Prop} {bytes : ByteArray} {maxL : Nat} {ret : Option FieldType} {hh : List (Nat × Nat × Nat × Nat)}
    (hM : vx_Met l y ws rm Pc Qc XC mc ms free) (hblind : FrameBlind Pc) (hrc : rm.cells = mc) (hrs : rm.slots = ms)
    (hframes : rm.frames + 1 ≤ R.frames) (hlocals : W9 + (maxL + 11) + rm.locals ≤ R.locals)
    (hws : ∀ w ∈ ws, ∀ a' U, s.WarmedH U.vm → w.before a' U = true) (hcode : Cond.codeWith y bytes maxL ret hh ∈ ws) (hinit : ∀ a' U, s.WarmedH U.vm → (Cond.initialized y.cls).before a' U = true) :
    vx_Back l R p e below s sargs y len W9 (PreOf R mc ms Pc) (PostOf Qc mc ms free) (vx_Post XC mc ms free) := by
  intro m meth c A g ig mk a X hg hsize hdg hW hn hp
  have h1 : (headSpec ws rm).pre.before a A.U = true := atoms_intro fun w hw => hws w hw _ _ X.warmed
  have h2 : (Cond.codeWith y bytes maxL ret hh).before a A.U = true := hws _ hcode _ _ X.warmed
  have h3 : (Cond.initialized y.cls).before a A.U = true := hinit _ _ X.warmed
  have h4 : A.cells + (headSpec ws rm).room.cells ≤ R.cells := by rw [show (headSpec ws rm).room.cells = mc from hrc]; exact hp.1
  have h5 : A.slots + (headSpec ws rm).room.slots ≤ R.slots := by rw [show (headSpec ws rm).room.slots = ms from hrs]; exact hp.2.1
  have hPc : Pc a (A.U.calling g mk a) := hblind _ _ _ _ hp.2.2
  obtain ⟨U, Ls, c0, s0⟩ := A
  dsimp only [Pt.U, Pt.locs, Pt.cells, Pt.slots] at h1 h2 h3 h4 h5 X hn hPc ⊢
  obtain ⟨m9, methY, cY, hn9, hmY, hcY, -, hlY, -⟩ := Cond.codeWith_spec h2
  cases Option.some.inj (hn9.symm.trans hn)
  obtain ⟨kY, hkY, -⟩ := className_of_methodNamed hn
  have hinitY : kY.init = .initialized := Cond.initialized_spec (findClass_of_methodNamed hn) hkY h3
  have h : At U g.method c below := by rw [hg]; exact X.here
  have hlocals9 : W9 + (maxL + 11) + (headSpec ws rm).room.locals ≤ R.locals := hlocals
  have happ : (headSpec ws rm).appliesLoose y e.platform (U.calling g mk a) = true :=
    Spec.appliesLoose_calling (g := g) h hdg hn hkY hinitY
      (X.room_calling (g := g) (R' := (headSpec ws rm).room) hsize hmY hcY hframes (by rw [hlY]; omega) h4 h5) h1
  obtain ⟨mid, hmid⟩ := h.above
  have hfr : (U.setTop g).frames = (.java g :: mid) ++ below := by rw [State.frames_setTop' g h.top, hmid]; rfl
  obtain ⟨o, s₂, hsteps, -, hend, hq⟩ := Steps.callFree hM p X.admits X.cas X.clock (acts := []) hfr happ hPc trivial
  have hq' : vx_Q Qc XC mc ms free a (U.calling g mk a) o s₂ := hq
  rw [State.frames_setTop' g h.top] at hend
  obtain ⟨g₀, hg0⟩ := Option.isSome_iff_exists.mp h.top
  obtain ⟨r, hr⟩ := State.topJava?_eq_some.mp hg0
  have hr' : (({ U with heap := s₂.heap, slotsUsed := s₂.slotsUsed } : State).setVm s₂.vm).frames = .java g₀ :: r := hr
  rcases hq' with ⟨hqc, L, hfe, hL⟩ | ⟨q, rfl, E, ce, L, hx, hce, hcv, hcl, hW₂, hsm, hL⟩
  · obtain ⟨⟨v, rfl⟩, hW₂, e2, q2, q3, q4, q5, q6⟩ := id hfe
    have e3 : s₂ = ({ (U.calling g mk a).setFrames s₂.frames with heap := s₂.heap, slotsUsed := s₂.slotsUsed } : State).setVm s₂.vm := by
      have : s₂ = ({ s₂ with vm := (U.calling g mk a).vm } : State).setVm s₂.vm := rfl
      rw [e2] at this
      exact this
    obtain ⟨c₂, i₂, len₂, hc₂, hd₂, hf₂⟩ := hend
    have hW' : U.WarmedH s₂.vm := hW₂
    have hcc : c₂ = c := by
      have h1 : s₂.code? g.method = U.code? g.method := by
        rw [State.code?_eq, State.code?_eq, hW'.alike.method?]
      exact Option.some.inj (hc₂.symm.trans (h1.trans h.code))
    subst hcc
    have hlen : len₂ = len := by rw [hdg] at hd₂; cases hd₂; rfl
    subst hlen
    have hs₂ : s₂ = (({ U with heap := s₂.heap, slotsUsed := s₂.slotsUsed } : State).setVm s₂.vm).setTop { g with pc := g.pc + len₂, stack := v.toList ++ g.stack } := by
      refine e3.trans ?_
      rw [hf₂, State.calling_eq h.top, State.setFrames_setFrames, State.setTop_of_frames _ hr', hr]
      rfl
    have hsame : U.sameButNew ({ U with heap := s₂.heap, slotsUsed := s₂.slotsUsed } : State) L mc ms := by
      refine ⟨?_, q2, q3, q4, q5, q6⟩
      obtain ⟨t, ht, -⟩ := State.frames_cons hr
      show ({ U with heap := s₂.heap, slotsUsed := s₂.slotsUsed } : State) = { U.setFrames U.frames with heap := s₂.heap, slotsUsed := s₂.slotsUsed }
      rw [State.setFrames_self ht]
    subst hg
    refine Or.inl ⟨v, ⟨(({ U with heap := s₂.heap, slotsUsed := s₂.slotsUsed } : State).setVm s₂.vm), Ls ++ L, c0 + mc, s0 + ms⟩,
      ⟨X.admits, X.cas, X.clock, X.frames, X.room, X.hears, X.method, X.code, (X.here.setHeapUsed s₂.heap s₂.slotsUsed).setVm hW'.alike, X.tail, State.WarmedH.trans X.warmed hW', X.limits, X.bytes, X.same.trans (hsame.setVm s.vm)⟩,
      ⟨g, mk, s₂, L, rfl, rfl, hqc, rfl, hL, rfl, rfl⟩, ?_⟩
    show Steps p.tables e below _ ((({ U with heap := s₂.heap, slotsUsed := s₂.slotsUsed } : State).setVm s₂.vm).setTop { g with pc := g.pc + len₂, stack := v.toList ++ g.stack })
    rw [← hs₂]
    exact hsteps
  · obtain ⟨e2, q2, q3, q4, q5, q6⟩ := id hsm
    have e3 : s₂ = ({ (U.calling g mk a).setFrames s₂.frames with heap := s₂.heap, slotsUsed := s₂.slotsUsed } : State).setVm s₂.vm := by
      have : s₂ = ({ s₂ with vm := (U.calling g mk a).vm } : State).setVm s₂.vm := rfl
      rw [e2] at this
      exact this
    have hf₂ : s₂.frames = .throwing q :: .java g :: U.frames.tail := hend
    have hW' : U.WarmedH s₂.vm := hW₂
    have hs₂ : s₂ = ((({ U with heap := s₂.heap, slotsUsed := s₂.slotsUsed } : State).setVm s₂.vm).setTop g).pushFrame (.throwing q) := by
      refine e3.trans ?_
      rw [hf₂, State.calling_eq h.top, State.setFrames_setFrames, State.pushFrame, State.frames_setTop _ hr', State.setTop_of_frames _ hr', State.setFrames_setFrames, hr]
      rfl
    have hsame : U.sameButNew ({ U with heap := s₂.heap, slotsUsed := s₂.slotsUsed } : State) L mc ms := by
      refine ⟨?_, q2, q3, q4, q5, q6⟩
      obtain ⟨t, ht, -⟩ := State.frames_cons hr
      show ({ U with heap := s₂.heap, slotsUsed := s₂.slotsUsed } : State) = { U.setFrames U.frames with heap := s₂.heap, slotsUsed := s₂.slotsUsed }
      rw [State.setFrames_self ht]
    subst hg
    refine Or.inr ⟨q, ⟨(({ U with heap := s₂.heap, slotsUsed := s₂.slotsUsed } : State).setVm s₂.vm), Ls ++ L, c0 + mc, s0 + ms⟩,
      ⟨X.admits, X.cas, X.clock, X.frames, X.room, X.hears, X.method, X.code, (X.here.setHeapUsed s₂.heap s₂.slotsUsed).setVm hW'.alike, X.tail, State.WarmedH.trans X.warmed hW', X.limits, X.bytes, X.same.trans (hsame.setVm s.vm)⟩,
      ⟨g, mk, s₂, L, E, ce, rfl, rfl, hx, hce, hcv, hcl, rfl, hL, rfl, rfl⟩, ?_⟩
    show Steps p.tables e below _ (((({ U with heap := s₂.heap, slotsUsed := s₂.slotsUsed } : State).setVm s₂.vm).setTop g).pushFrame (.throwing q))
    rw [← hs₂]
    exact hsteps
end
variable {p : Program} {l : Launch} {e : Env} {R : Room} {s : State} {m : MethodId} {args : Array Value} {below : List Frame} {meth : Method} {c : Code} {T : State} {H : Heap} {locs : List Loc} {cells slots : Nat}
theorem vx_callVX (X : Stand p l e R s m args below meth c T locs cells slots) (hexec : p.tables.exec = Jvm.exec) {own C : String} {index : Nat} {y : MethodName} {bytes : ByteArray} {maxL : Nat} {ret : Option FieldType} {hh : List (Nat × Nat × Nat × Nat)}
    (hown : s.vm.findClass own = some m.cls) (hlink : (Cond.methodLink own index y).before args s = true) (hinst : (Cond.instanceMethod y).before args s = true) (hsel : (Cond.selects C y y).before args s = true)
    (hcode : (Cond.codeWith y bytes maxL ret hh).before args s = true) (hy : y.cls ≠ "java/lang/invoke/MethodHandle" ∧ y.cls ≠ "java/lang/invoke/VarHandle")
    {W9 : Nat} {Pre : Pt → Array Value → Prop} {Post : Pt → Array Value → Option Value → Pt → Prop} {PostX : Pt → Array Value → Addr → Pt → Prop} (hK : vx_Back l R p e below s args y 3 W9 Pre Post PostX)
    {b : Addr} {cellB : Cell} (hcell : T.heap[b]? = some cellB) (hobj : cellB.vm.isStatics = false) (hcls : s.vm.findClass C = some cellB.cls)
    {g : JFrame} (hg : g.method = m) (hsize : g.locals.size = c.maxLocals) {argsL rest : List Value} (hlen : ∀ sig, parseMethodDescriptor y.desc = some sig → argsL.length = sig.parameters.length)
    (hstack : g.stack = argsL.reverse ++ .ref b :: rest) (hW : 2 * g.monitorRoom + (rest.map fun v => v.category).sum ≤ W9) (hdg : decode c.code g.pc = .ok (.invokevirtual index, 3))
    (hpre : ∀ vm₁, s.WarmedH vm₁ → Pre ⟨T.setVm vm₁, locs, cells, slots⟩ (Value.ref b :: argsL).toArray) :
    (∃ (v : Option Value) (vm₁ : Vm) (B : Pt), s.WarmedH vm₁ ∧ Stand p l e R s m args below meth c B.U B.locs B.cells B.slots ∧ Post ⟨T.setVm vm₁, locs, cells, slots⟩ (Value.ref b :: argsL).toArray v B ∧
      ∀ target, Steps p.tables e below (B.U.setTop { g with pc := g.pc + 3, stack := v.toList ++ rest }) target → Steps p.tables e below (T.setTop g) target) ∨
    (∃ (q : Addr) (vm₁ : Vm) (B : Pt), s.WarmedH vm₁ ∧ Stand p l e R s m args below meth c B.U B.locs B.cells B.slots ∧ PostX ⟨T.setVm vm₁, locs, cells, slots⟩ (Value.ref b :: argsL).toArray q B ∧
      Steps p.tables e below (T.setTop g) ((B.U.setTop { g with stack := rest }).pushFrame (.throwing q))) := by
  obtain ⟨mk, methM, hnamed, hmethM, hstM, habM⟩ := Cond.instanceMethod_spec hinst
  obtain ⟨m8, methM', cM, hn8, hmethM', -, -, -, -, -, -, hsigM⟩ := Cond.codeWith_spec hcode
  cases Option.some.inj (hn8.symm.trans hnamed)
  cases hmethM.symm.trans hmethM'
  obtain ⟨c2, r2, m2, q1, q2, q3, q4, kP, hkP, hkPi⟩ := Cond.selects_spec hsel
  cases hcls.symm.trans q1
  cases (State.methodFound?_of_named hnamed hy).symm.trans q2
  cases hnamed.symm.trans q3
  have hselP : selectMethod e.platform s.vm cellB.cls mk = .method mk := by rw [Launch.admits_selectMethod X.admits]; exact q4
  obtain ⟨vm₁, X₁, hstep₁⟩ := X.invokevirtual hexec hown hlink hnamed hmethM hstM hkP hkPi hy (a := b) (cell := cellB) hcell
    (fun z h => by rw [h] at hobj; cases hobj) hselP hmethM habM hkP hkPi (g := g) hg (argsL := argsL) (rest := rest) (hlen _ hsigM) hstack hdg
  rcases hK m meth c ⟨T.setVm vm₁, locs, cells, slots⟩ { g with stack := rest } (.invokevirtual index) mk (Value.ref b :: argsL).toArray X₁ hg hsize hdg hW (X₁.named hnamed) (hpre vm₁ X₁.warmed) with ⟨v, B, X', hpost, hsteps⟩ | ⟨q, B, X', hpost, hsteps⟩
  · exact Or.inl ⟨v, vm₁, B, X₁.warmed, X', hpost, fun target h => hstep₁ _ fun acts => by rw [doInvoke_state]; exact hsteps.trans h⟩
  · exact Or.inr ⟨q, vm₁, B, X₁.warmed, X', hpost, hstep₁ _ fun acts => by rw [doInvoke_state]; exact hsteps⟩
theorem vx_callSX (X : Stand p l e R s m args below meth c T locs cells slots) (hexec : p.tables.exec = Jvm.exec) {own : String} {index : Nat} {y : MethodName} {bytes : ByteArray} {maxL : Nat} {ret : Option FieldType} {hh : List (Nat × Nat × Nat × Nat)}
    (hown : s.vm.findClass own = some m.cls) (hlink : (Cond.methodLink own index y).before args s = true) (hstat : (Cond.static y).before args s = true) (hinit : (Cond.initialized y.cls).before args s = true)
    (hcode : (Cond.codeWith y bytes maxL ret hh).before args s = true) (hy : y.cls ≠ "java/lang/invoke/MethodHandle" ∧ y.cls ≠ "java/lang/invoke/VarHandle")
    {W9 : Nat} {Pre : Pt → Array Value → Prop} {Post : Pt → Array Value → Option Value → Pt → Prop} {PostX : Pt → Array Value → Addr → Pt → Prop} (hK : vx_Back l R p e below s args y 3 W9 Pre Post PostX)
    {g : JFrame} (hg : g.method = m) (hsize : g.locals.size = c.maxLocals) {argsL rest : List Value} (hlen : ∀ sig, parseMethodDescriptor y.desc = some sig → argsL.length = sig.parameters.length)
    (hstack : g.stack = argsL.reverse ++ rest) (hW : 2 * g.monitorRoom + (rest.map fun v => v.category).sum ≤ W9) (hdg : decode c.code g.pc = .ok (.invokestatic index, 3))
    (hpre : ∀ vm₁, s.WarmedH vm₁ → Pre ⟨T.setVm vm₁, locs, cells, slots⟩ argsL.toArray) :
    (∃ (v : Option Value) (vm₁ : Vm) (B : Pt), s.WarmedH vm₁ ∧ Stand p l e R s m args below meth c B.U B.locs B.cells B.slots ∧ Post ⟨T.setVm vm₁, locs, cells, slots⟩ argsL.toArray v B ∧
      ∀ target, Steps p.tables e below (B.U.setTop { g with pc := g.pc + 3, stack := v.toList ++ rest }) target → Steps p.tables e below (T.setTop g) target) ∨
    (∃ (q : Addr) (vm₁ : Vm) (B : Pt), s.WarmedH vm₁ ∧ Stand p l e R s m args below meth c B.U B.locs B.cells B.slots ∧ PostX ⟨T.setVm vm₁, locs, cells, slots⟩ argsL.toArray q B ∧
      Steps p.tables e below (T.setTop g) ((B.U.setTop { g with stack := rest }).pushFrame (.throwing q))) := by
  obtain ⟨mk, methM, cM, hnamed, hmethM, -, -, -, -, -, -, hsigM⟩ := Cond.codeWith_spec hcode
  have hstatic : methM.isStatic = true := Cond.static_spec hnamed hmethM hstat
  obtain ⟨kP, hkP, -⟩ := className_of_methodNamed hnamed
  have hinitP : kP.init = .initialized := Cond.initialized_spec (findClass_of_methodNamed hnamed) hkP hinit
  obtain ⟨vm₁, X₁, hstep₁⟩ := X.invokestatic hexec hown hlink hnamed hmethM hstatic hkP hinitP hy (g := g) hg (argsL := argsL) (rest := rest) (hlen _ hsigM) hstack hdg
  rcases hK m meth c ⟨T.setVm vm₁, locs, cells, slots⟩ { g with stack := rest } (.invokestatic index) mk argsL.toArray X₁ hg hsize hdg hW (X₁.named hnamed) (hpre vm₁ X₁.warmed) with ⟨v, B, X', hpost, hsteps⟩ | ⟨q, B, X', hpost, hsteps⟩
  · exact Or.inl ⟨v, vm₁, B, X₁.warmed, X', hpost, fun target h => hstep₁ _ fun acts => by rw [doInvoke_state]; exact hsteps.trans h⟩
  · exact Or.inr ⟨q, vm₁, B, X₁.warmed, X', hpost, hstep₁ _ fun acts => by rw [doInvoke_state]; exact hsteps⟩
theorem vx_callVW (X : Stand p l e R s m args below meth c T locs cells slots) (hexec : p.tables.exec = Jvm.exec) {own C : String} {index : Nat} {y : MethodName} {bytes : ByteArray} {maxL : Nat} {ret : Option FieldType} {hh : List (Nat × Nat × Nat × Nat)}
    (hown : s.vm.findClass own = some m.cls) (hlink : (Cond.methodLink own index y).before args s = true) (hinst : (Cond.instanceMethod y).before args s = true) (hsel : (Cond.selects C y y).before args s = true)
    (hcode : (Cond.codeWith y bytes maxL ret hh).before args s = true) (hy : y.cls ≠ "java/lang/invoke/MethodHandle" ∧ y.cls ≠ "java/lang/invoke/VarHandle")
    {W9 : Nat} {Pre : Pt → Array Value → Prop} {Post : Pt → Array Value → Option Value → Pt → Prop} (hK : Back l R p e below s args y 3 W9 Pre Post)
    {b : Addr} {cellB : Cell} (hcell : T.heap[b]? = some cellB) (hobj : cellB.vm.isStatics = false) (hcls : s.vm.findClass C = some cellB.cls)
    {g : JFrame} (hg : g.method = m) (hsize : g.locals.size = c.maxLocals) {argsL rest : List Value} (hlen : ∀ sig, parseMethodDescriptor y.desc = some sig → argsL.length = sig.parameters.length)
    (hstack : g.stack = argsL.reverse ++ .ref b :: rest) (hW : 2 * g.monitorRoom + (rest.map fun v => v.category).sum ≤ W9) (hdg : decode c.code g.pc = .ok (.invokevirtual index, 3))
    (hpre : ∀ vm₁, s.WarmedH vm₁ → Pre ⟨T.setVm vm₁, locs, cells, slots⟩ (Value.ref b :: argsL).toArray) :
    ∃ (v : Option Value) (vm₁ : Vm) (B : Pt), s.WarmedH vm₁ ∧ Stand p l e R s m args below meth c B.U B.locs B.cells B.slots ∧ Post ⟨T.setVm vm₁, locs, cells, slots⟩ (Value.ref b :: argsL).toArray v B ∧
      ∀ target, Steps p.tables e below (B.U.setTop { g with pc := g.pc + 3, stack := v.toList ++ rest }) target → Steps p.tables e below (T.setTop g) target := by
  obtain ⟨mk, methM, hnamed, hmethM, hstM, habM⟩ := Cond.instanceMethod_spec hinst
  obtain ⟨m8, methM', cM, hn8, hmethM', -, -, -, -, -, -, hsigM⟩ := Cond.codeWith_spec hcode
  cases Option.some.inj (hn8.symm.trans hnamed)
  cases hmethM.symm.trans hmethM'
  obtain ⟨c2, r2, m2, q1, q2, q3, q4, kP, hkP, hkPi⟩ := Cond.selects_spec hsel
  cases hcls.symm.trans q1
  cases (State.methodFound?_of_named hnamed hy).symm.trans q2
  cases hnamed.symm.trans q3
  have hselP : selectMethod e.platform s.vm cellB.cls mk = .method mk := by rw [Launch.admits_selectMethod X.admits]; exact q4
  obtain ⟨vm₁, X₁, hstep₁⟩ := X.invokevirtual hexec hown hlink hnamed hmethM hstM hkP hkPi hy (a := b) (cell := cellB) hcell
    (fun z h => by rw [h] at hobj; cases hobj) hselP hmethM habM hkP hkPi (g := g) hg (argsL := argsL) (rest := rest) (hlen _ hsigM) hstack hdg
  obtain ⟨v, B, X', hpost, hsteps⟩ := hK m meth c ⟨T.setVm vm₁, locs, cells, slots⟩ { g with stack := rest } (.invokevirtual index) mk (Value.ref b :: argsL).toArray X₁ hg hsize hdg hW (X₁.named hnamed) (hpre vm₁ X₁.warmed)
  exact ⟨v, vm₁, B, X₁.warmed, X', hpost, fun target h => hstep₁ _ fun acts => by rw [doInvoke_state]; exact hsteps.trans h⟩
abbrev vx_CVW (R : Room) (s : State) (args : Array Value) (own C : String) (index : Nat) (y : MethodName) (bytes : ByteArray) (maxL : Nat) (ret : Option FieldType) (hh : List (Nat × Nat × Nat × Nat)) (ws : List Cond) (rm : Room) (mc ms n : Nat) : Prop :=
  (rm.cells = mc ∧ rm.slots = ms ∧ rm.frames + 1 ≤ R.frames ∧ 8 + (maxL + 11) + rm.locals ≤ R.locals ∧ (∀ w ∈ ws, ∀ (a' : Array Value) (U : State), s.WarmedH U.vm → w.before a' U = true) ∧ Cond.codeWith y bytes maxL ret hh ∈ ws) ∧
  (Cond.codeWith y bytes maxL ret hh).before args s = true ∧ (Cond.initialized y.cls).before args s = true ∧ (y.cls ≠ "java/lang/invoke/MethodHandle" ∧ y.cls ≠ "java/lang/invoke/VarHandle") ∧
  (∀ sig, parseMethodDescriptor y.desc = some sig → n = sig.parameters.length) ∧ (Cond.methodLink own index y).before args s = true ∧ (Cond.instanceMethod y).before args s = true ∧ (Cond.selects C y y).before args s = true
theorem vx_cwVW {own C : String} {index maxL mc ms : Nat} {y : MethodName} {bytes : ByteArray} {ret : Option FieldType} {hh : List (Nat × Nat × Nat × Nat)} {Ts ws ws' : List Cond} {rm : Room} (n : Nat) (ht : ∀ w ∈ Ts, w.before args s = true) (hT : GoodIn Ts (wsV own index C y ws)) (hw : ws = Cond.codeWith y bytes maxL ret hh :: ws') (hrc : rm.cells = mc) (hrs : rm.slots = ms)
    (hd : y.cls = C ∧ y.cls ≠ "java/lang/invoke/MethodHandle" ∧ y.cls ≠ "java/lang/invoke/VarHandle" ∧ (parseMethodDescriptor y.desc).map (fun d => d.parameters.length) = some n) (hR : rm.frames + 1 ≤ R.frames ∧ 8 + (maxL + 11) + rm.locals ≤ R.locals) :
    vx_CVW R s args own C index y bytes maxL ret hh ws rm mc ms n := by
  obtain ⟨hC, hd⟩ := hd
  subst hC
  have ok : ∀ w ∈ wsV own index y.cls y ws, w.before args s = true := fun w h => ht w (hT w h).1
  have hG : GoodIn Ts ws := fun w h => hT w (by unfold wsV; exact List.mem_append_right _ h)
  have hc : Cond.codeWith y bytes maxL ret hh ∈ ws := by rw [hw]; exact List.mem_cons_self
  refine ⟨⟨hrc, hrs, hR.1, hR.2, pay_in ht hG, hc⟩, ht _ (hG _ hc).1, ok _ (by simp [wsV]), ⟨hd.1, hd.2.1⟩, fun sig h => ?_, ok _ (by simp [wsV]), ok _ (by simp [wsV]), ok _ (by simp [wsV])⟩
  have h2 := hd.2.2
  rw [h] at h2
  exact (Option.some.inj h2).symm
theorem vx_runVW {y : MethodName} {bytes cc : ByteArray} {maxL nL mc ms n index : Nat} {ret : Option FieldType} {hh : List (Nat × Nat × Nat × Nat)} {ws : List Cond} {rm : Room} {Pc : Array Value → State → Prop} {Qc : Array Value → State → Outcome → State → Prop} {free : Addr → Prop} {Ts : List Cond} {own C : String} {b : Addr} {As rest : List Value} {g : JFrame}
    (S : CallFix p m c cc nL s args Ts own) (hM : Met l y ws rm Pc Qc mc ms free) (cw : vx_CVW R s args own C index y bytes maxL ret hh ws rm mc ms n) (hp : PreV s H C b Pc As)
    (hg : g.method = m) (hn : As.length = n) (hsize : g.locals.size = nL) (hstack : g.stack = As.reverse ++ .ref b :: rest) (hW : 2 * g.monitorRoom + (rest.map fun v => v.category).sum ≤ 8) (hdg : decode cc g.pc = .ok (.invokevirtual index, 3)) (hf : cells + mc ≤ R.cells ∧ slots + ms ≤ R.slots) :
    va_Run p l e R s m args below meth c H locs cells slots mc ms g rest (Qc (Value.ref b :: As).toArray) free := by
  obtain ⟨⟨hrc, hrs, hfr, hlo, hws, hcw⟩, hcode, hini, hy, hlen, hl, hin, hse⟩ := cw
  have hK : Back l R p e below s args y 3 8 (PreOf R mc ms Pc) (PostOf Qc mc ms free) := va_backW (hh := hh) (bytes := bytes) (maxL := maxL) (ret := ret) hM hp.1 hrc hrs hfr hlo hws hcw (fun a' U hW => word_at hW (Or.inl (by first | rfl | simp [Cond.onTables, Cond.keeps, Cond.steady])) hini)
  obtain ⟨hx, hb, hml, ho, -⟩ := S
  obtain ⟨-, ⟨cellB, hcB, hoB, hclB⟩, hPc⟩ := hp
  intro T hT X
  obtain ⟨v, vm₁, ⟨U', l2, c2, s2⟩, hW₁, X', ⟨g', mk, t, L, e1, e2, hq, h1, hL, h2, h3⟩, st⟩ := vx_callVW X hx (C := C) (hh := hh) (bytes := bytes) (maxL := maxL) (ret := ret) ho hl hin hse hcode hy hK (by rw [hT]; exact hcB) hoB hclB hg (hsize.trans hml.symm) (argsL := As) (rest := rest) (fun sig h => hn.trans (hlen sig h)) hstack hW (by rw [hb]; exact hdg)
    (fun vm₁ hW₁ => ⟨hf.1, hf.2, hPc (T.setVm vm₁) hT hW₁⟩)
  dsimp only [Pt.U, Pt.locs, Pt.cells, Pt.slots] at X' e1 e2 h1 h2 h3 st
  subst h1; subst h2; subst h3
  exact ⟨v, (T.setVm vm₁).calling g' mk (Value.ref b :: As).toArray, t, U', L, hT, X', hL, e1, e2, hq, st⟩
section
variable {y : MethodName} {bytes cc : ByteArray} {maxL nL mc ms n index : Nat} {ret : Option FieldType} {ws : List Cond} {rm : Room} {Pc : Array Value → State → Prop} {Qc : Array Value → State → Outcome → State → Prop} {XC : String → State → State → Prop} {free : Addr → Prop} {Ts : List Cond} {own C : String} {b : Addr} {As rest : List Value} {g : JFrame}
theorem vx_runVX {hh : List (Nat × Nat × Nat × Nat)} (S : CallFix p m c cc nL s args Ts own) (hM : vx_Met l y ws rm Pc Qc XC mc ms free) (cw : vx_CVW R s args own C index y bytes maxL ret hh ws rm mc ms n) (hp : PreV s H C b Pc As)
    (hg : g.method = m) (hn : As.length = n) (hsize : g.locals.size = nL) (hstack : g.stack = As.reverse ++ .ref b :: rest) (hW : 2 * g.monitorRoom + (rest.map fun v => v.category).sum ≤ 8) (hdg : decode cc g.pc = .ok (.invokevirtual index, 3)) (hf : cells + mc ≤ R.cells ∧ slots + ms ≤ R.slots) :
    vx_Run p l e R s m args below meth c H locs cells slots mc ms g rest (Qc (Value.ref b :: As).toArray) XC free := by
  obtain ⟨⟨hrc, hrs, hfr, hlo, hws, hcw⟩, hcode, hini, hy, hlen, hl, hin, hse⟩ := cw
  have hK : vx_Back l R p e below s args y 3 8 (PreOf R mc ms Pc) (PostOf Qc mc ms free) (vx_Post XC mc ms free) := vx_backW (hh := hh) (bytes := bytes) (maxL := maxL) (ret := ret) hM hp.1 hrc hrs hfr hlo hws hcw (fun a' U hW => word_at hW (Or.inl (by first | rfl | simp [Cond.onTables, Cond.keeps, Cond.steady])) hini)
  obtain ⟨hx, hb, hml, ho, -⟩ := S
  obtain ⟨-, ⟨cellB, hcB, hoB, hclB⟩, hPc⟩ := hp
  intro T hT X
  rcases vx_callVX X hx (C := C) (hh := hh) (bytes := bytes) (maxL := maxL) (ret := ret) ho hl hin hse hcode hy hK (by rw [hT]; exact hcB) hoB hclB hg (hsize.trans hml.symm) (argsL := As) (rest := rest) (fun sig h => hn.trans (hlen sig h)) hstack hW (by rw [hb]; exact hdg)
    (fun vm₁ hW₁ => ⟨hf.1, hf.2, hPc (T.setVm vm₁) hT hW₁⟩) with ⟨v, vm₁, ⟨U', l2, c2, s2⟩, hW₁, X', ⟨g', mk, t, L, e1, e2, hq, h1, hL, h2, h3⟩, st⟩ | ⟨q, vm₁, ⟨U', l2, c2, s2⟩, hW₁, X', ⟨g', mk, t, L, E, ce, e1, e2, hq, hce, hcv, hcl, h1, hL, h2, h3⟩, st⟩
  · dsimp only [Pt.U, Pt.locs, Pt.cells, Pt.slots] at X' e1 e2 h1 h2 h3 st
    subst h1; subst h2; subst h3
    exact Or.inl ⟨v, (T.setVm vm₁).calling g' mk (Value.ref b :: As).toArray, t, U', L, hT, X', hL, e1, e2, hq, st⟩
  · dsimp only [Pt.U, Pt.locs, Pt.cells, Pt.slots] at X' e1 e2 h1 h2 h3 st hcl
    subst h1; subst h2; subst h3
    exact Or.inr ⟨q, (T.setVm vm₁).calling g' mk (Value.ref b :: As).toArray, t, U', L, E, ce, hT, X', hL, e1, e2, hq, hce, hcv, vx_cls hW₁ hcl, st⟩
theorem vx_runSX {hh : List (Nat × Nat × Nat × Nat)} (S : CallFix p m c cc nL s args Ts own) (hM : vx_Met l y ws rm Pc Qc XC mc ms free) (cw : vx_CSW R s args own index y bytes maxL ret hh ws rm mc ms n) (hp : PreS s H Pc As)
    (hg : g.method = m) (hn : As.length = n) (hsize : g.locals.size = nL) (hstack : g.stack = As.reverse ++ rest) (hW : 2 * g.monitorRoom + (rest.map fun v => v.category).sum ≤ 8) (hdg : decode cc g.pc = .ok (.invokestatic index, 3)) (hf : cells + mc ≤ R.cells ∧ slots + ms ≤ R.slots) :
    vx_Run p l e R s m args below meth c H locs cells slots mc ms g rest (Qc As.toArray) XC free := by
  obtain ⟨⟨hrc, hrs, hfr, hlo, hws, hcw⟩, hcode, hini, hy, hlen, hl, hstt⟩ := cw
  have hK : vx_Back l R p e below s args y 3 8 (PreOf R mc ms Pc) (PostOf Qc mc ms free) (vx_Post XC mc ms free) := vx_backW (hh := hh) (bytes := bytes) (maxL := maxL) (ret := ret) hM hp.1 hrc hrs hfr hlo hws hcw (fun a' U hW => word_at hW (Or.inl (by first | rfl | simp [Cond.onTables, Cond.keeps, Cond.steady])) hini)
  obtain ⟨hx, hb, hml, ho, -⟩ := S
  intro T hT X
  rcases vx_callSX X hx (hh := hh) (bytes := bytes) (maxL := maxL) (ret := ret) ho hl hstt hini hcode hy hK hg (hsize.trans hml.symm) (argsL := As) (rest := rest) (fun sig h => hn.trans (hlen sig h)) hstack hW (by rw [hb]; exact hdg)
    (fun vm₁ hW₁ => ⟨hf.1, hf.2, hp.2 (T.setVm vm₁) hT hW₁⟩) with ⟨v, vm₁, ⟨U', l2, c2, s2⟩, hW₁, X', ⟨g', mk, t, L, e1, e2, hq, h1, hL, h2, h3⟩, st⟩ | ⟨q, vm₁, ⟨U', l2, c2, s2⟩, hW₁, X', ⟨g', mk, t, L, E, ce, e1, e2, hq, hce, hcv, hcl, h1, hL, h2, h3⟩, st⟩
  · dsimp only [Pt.U, Pt.locs, Pt.cells, Pt.slots] at X' e1 e2 h1 h2 h3 st
    subst h1; subst h2; subst h3
    exact Or.inl ⟨v, (T.setVm vm₁).calling g' mk As.toArray, t, U', L, hT, X', hL, e1, e2, hq, st⟩
  · dsimp only [Pt.U, Pt.locs, Pt.cells, Pt.slots] at X' e1 e2 h1 h2 h3 st hcl
    subst h1; subst h2; subst h3
    exact Or.inr ⟨q, (T.setVm vm₁).calling g' mk As.toArray, t, U', L, E, ce, hT, X', hL, e1, e2, hq, hce, hcv, vx_cls hW₁ hcl, st⟩
end
end VXH
theorem vx_ofWH {l : Launch} {y : MethodName} {ws ws' : List Cond} {rm : Room} {Pc : Array Value → State → Prop} {Qc : Array Value → State → Outcome → State → Prop} {XC : String → State → State → Prop} {mc ms : Nat} {free : Addr → Prop} {cc : ByteArray} {maxL : Nat} {ret : Option FieldType} {hh : List (Nat × Nat × Nat × Nat)}
    (hy : plainName y.cls = true) (hw : ws = Cond.codeWith y cc maxL ret hh :: ws')
    (body : ∀ p e s m args below meth c s₁, BodyLoose p l y (headSpec ws rm) cc maxL ret e s m args below meth c s₁ → c.maxLocals = maxL → Pc args s →
      W p l e (headSpec ws rm).room s m args below meth c s.heap [] 0 0 (vx_MQ below Qc XC args s mc ms free) (entryFrame m args maxL)) : vx_Met l y ws rm Pc Qc XC mc ms free := by
  refine MetFree.of_bodyS (code := cc) (maxLocals := maxL) (ret := ret) hy ?_ ?_
  · intro args s m h hn
    obtain ⟨m9, meth, c, hn9, h1, h2, h3, h4, -, h5, h6, -⟩ := Cond.codeWith_spec (atoms_spec (ws := ws) h _ (by rw [hw]; exact List.mem_cons_self))
    cases hn.symm.trans hn9
    exact ⟨meth, c, h1, h2, h3, h4, h5, h6⟩
  · intro p e s m args below meth c s₁ B hml hP _
    have hh0 : s₁.heap = s.heap := by rw [B.state]; rfl
    obtain ⟨t, a1, o, b1, b2, b3⟩ := body p e s m args below meth c s₁ B hml hP s₁ hh0 (Stand.of_body B)
    exact ⟨t, o, a1, b1, b2, b3⟩
/-! ===== END ===== -/

def RX0 : String := "LiftingWorkshop$Code"
def TX0 : u_T := fun k => match k with
  | 0 => ("LiftingWorkshop$Code", "row", "LLiftingWorkshop$Row;", true)
  | 1 => ("LiftingWorkshop$Code", "reach", "LLiftingWorkshop$Row;", true)
  | 2 => ("LiftingWorkshop$Code", "bits", "[B", true)
  | 3 => ("LiftingWorkshop$Code", "toldPlaces", "[B", true)
  | 4 => ("LiftingWorkshop$Code", "toldPlanes", "[B", true)
  | 5 => ("LiftingWorkshop$Code", "count", "I", false)
  | 6 => ("LiftingWorkshop$Code", "length", "I", false)
  | _ => ("LiftingWorkshop$Code", "lowLength", "I", false)
def tyX0 : Nat → FieldType := fun k => match k with
  | 0 => .object "LiftingWorkshop$Row"
  | 1 => .object "LiftingWorkshop$Row"
  | 2 => .array .byte
  | 3 => .array .byte
  | 4 => .array .byte
  | 5 => .int
  | 6 => .int
  | _ => .int
abbrev wsX00 : List Cond := u_ws RX0 TX0 8
theorem nmX0 : ∀ a, a < 8 → ∀ b, b < 8 → a ≠ b → (TX0 a).2.1 ≠ (TX0 b).2.1 := by decide +kernel
theorem tyX0_ok : ∀ k, k < 8 → parseFieldDescriptor (TX0 k).2.2.1 = some (tyX0 k) := by decide +kernel
abbrev cX0_init : ByteArray := prog_2_method_1_code
def yX0_init : MethodName := ⟨RX0, "<init>", "()V"⟩
def RX1 : String := "LiftingWorkshop$Lifting"
def TX1 : u_T := fun k => match k with
  | 0 => ("LiftingWorkshop$Lifting", "mixed", "LLiftingWorkshop$Row;", true)
  | _ => ("LiftingWorkshop$Lifting", "wavelet", "I", false)
def tyX1 : Nat → FieldType := fun k => match k with
  | 0 => .object "LiftingWorkshop$Row"
  | _ => .int
abbrev wsX10 : List Cond := u_ws RX1 TX1 2
theorem nmX1 : ∀ a, a < 2 → ∀ b, b < 2 → a ≠ b → (TX1 a).2.1 ≠ (TX1 b).2.1 := by decide +kernel
theorem tyX1_ok : ∀ k, k < 2 → parseFieldDescriptor (TX1 k).2.2.1 = some (tyX1 k) := by decide +kernel
abbrev cX1_init : ByteArray := prog_3_method_1_code
def yX1_init : MethodName := ⟨RX1, "<init>", "()V"⟩
abbrev cX1_wavelet : ByteArray := prog_3_method_2_code
def yX1_wavelet : MethodName := ⟨RX1, "wavelet", "()I"⟩
abbrev cX1_use : ByteArray := prog_3_method_3_code
def yX1_use : MethodName := ⟨RX1, "use", "(I)V"⟩
abbrev cX1_divide : ByteArray := prog_3_method_4_code
def yX1_divide : MethodName := ⟨RX1, "divide", "(LLiftingWorkshop$Row;II)V"⟩
abbrev cX1_unite : ByteArray := prog_3_method_5_code
def yX1_unite : MethodName := ⟨RX1, "unite", "(LLiftingWorkshop$Row;II)V"⟩
abbrev cX1_steps : ByteArray := prog_3_method_6_code
def yX1_steps : MethodName := ⟨RX1, "steps", "()I"⟩
abbrev cX1_lift : ByteArray := prog_3_method_7_code
def yX1_lift : MethodName := ⟨RX1, "lift", "(LLiftingWorkshop$Row;IIII)V"⟩
abbrev cX1_oddChange : ByteArray := prog_3_method_8_code
def yX1_oddChange : MethodName := ⟨RX1, "oddChange", "(IJJ)J"⟩
abbrev cX1_evenChange : ByteArray := prog_3_method_9_code
def yX1_evenChange : MethodName := ⟨RX1, "evenChange", "(IJJ)J"⟩
def RX2 : String := "LiftingWorkshop$Row"
def TX2 : u_T := fun k => match k with
  | _ => ("LiftingWorkshop$Row", "cells", "[J", true)
def tyX2 : Nat → FieldType := fun k => match k with
  | _ => .array .long
abbrev wsX20 : List Cond := u_ws RX2 TX2 1
theorem nmX2 : ∀ a, a < 1 → ∀ b, b < 1 → a ≠ b → (TX2 a).2.1 ≠ (TX2 b).2.1 := by decide +kernel
theorem tyX2_ok : ∀ k, k < 1 → parseFieldDescriptor (TX2 k).2.2.1 = some (tyX2 k) := by decide +kernel
abbrev cX2_init : ByteArray := prog_4_method_1_code
def yX2_init : MethodName := ⟨RX2, "<init>", "()V"⟩
abbrev cX2_get : ByteArray := prog_4_method_2_code
def yX2_get : MethodName := ⟨RX2, "get", "(I)J"⟩
abbrev cX2_set : ByteArray := prog_4_method_3_code
def yX2_set : MethodName := ⟨RX2, "set", "(IJ)V"⟩
abbrev cX2_magnitude : ByteArray := prog_4_method_4_code
def yX2_magnitude : MethodName := ⟨RX2, "magnitude", "(I)J"⟩
abbrev cX2_clear : ByteArray := prog_4_method_5_code
def yX2_clear : MethodName := ⟨RX2, "clear", "()V"⟩
abbrev cX2_copy : ByteArray := prog_4_method_6_code
def yX2_copy : MethodName := ⟨RX2, "copy", "(LLiftingWorkshop$Row;)V"⟩
def RX3 : String := "LiftingWorkshop$Tree"
def TX3 : u_T := fun k => match k with
  | 0 => ("LiftingWorkshop$Tree", "parents", "[Z", true)
  | _ => ("LiftingWorkshop$Tree", "width", "I", false)
def tyX3 : Nat → FieldType := fun k => match k with
  | 0 => .array .boolean
  | _ => .int
abbrev wsX30 : List Cond := u_ws RX3 TX3 2
theorem nmX3 : ∀ a, a < 2 → ∀ b, b < 2 → a ≠ b → (TX3 a).2.1 ≠ (TX3 b).2.1 := by decide +kernel
theorem tyX3_ok : ∀ k, k < 2 → parseFieldDescriptor (TX3 k).2.2.1 = some (tyX3 k) := by decide +kernel
abbrev cX3_init : ByteArray := prog_5_method_1_code
def yX3_init : MethodName := ⟨RX3, "<init>", "()V"⟩
abbrev cX3_width : ByteArray := prog_5_method_2_code
def yX3_width : MethodName := ⟨RX3, "width", "()I"⟩
abbrev cX3_plant : ByteArray := prog_5_method_3_code
def yX3_plant : MethodName := ⟨RX3, "plant", "(I)V"⟩
abbrev cX3_exists : ByteArray := prog_5_method_4_code
def yX3_exists : MethodName := ⟨RX3, "exists", "(I)Z"⟩
abbrev cX3_hasChildren : ByteArray := prog_5_method_5_code
def yX3_hasChildren : MethodName := ⟨RX3, "hasChildren", "(I)Z"⟩
abbrev cX3_canBeSplit : ByteArray := prog_5_method_6_code
def yX3_canBeSplit : MethodName := ⟨RX3, "canBeSplit", "(I)Z"⟩
abbrev cX3_giveChildren : ByteArray := prog_5_method_7_code
def yX3_giveChildren : MethodName := ⟨RX3, "giveChildren", "(I)V"⟩
abbrev cX3_takeChildren : ByteArray := prog_5_method_8_code
def yX3_takeChildren : MethodName := ⟨RX3, "takeChildren", "(I)V"⟩
abbrev cX3_isWithin : ByteArray := prog_5_method_9_code
def yX3_isWithin : MethodName := ⟨RX3, "isWithin", "(II)Z"⟩
abbrev cX3_levelOf : ByteArray := prog_5_method_10_code
def yX3_levelOf : MethodName := ⟨RX3, "levelOf", "(I)I"⟩
abbrev cX3_widthOf : ByteArray := prog_5_method_11_code
def yX3_widthOf : MethodName := ⟨RX3, "widthOf", "(I)I"⟩
abbrev cX3_startOf : ByteArray := prog_5_method_12_code
def yX3_startOf : MethodName := ⟨RX3, "startOf", "(I)I"⟩
abbrev cX3_leafOver : ByteArray := prog_5_method_13_code
def yX3_leafOver : MethodName := ⟨RX3, "leafOver", "(I)I"⟩
abbrev cX3_leafCount : ByteArray := prog_5_method_14_code
def yX3_leafCount : MethodName := ⟨RX3, "leafCount", "()I"⟩
def RX4 : String := "LiftingWorkshop"
def TX4 : u_T := fun k => match k with
  | 0 => ("LiftingWorkshop", "tree", "LLiftingWorkshop$Tree;", true)
  | 1 => ("LiftingWorkshop", "lifting", "LLiftingWorkshop$Lifting;", true)
  | 2 => ("LiftingWorkshop", "numbers", "LLiftingWorkshop$Row;", true)
  | 3 => ("LiftingWorkshop", "code", "LLiftingWorkshop$Code;", true)
  | 4 => ("LiftingWorkshop", "samples", "LLiftingWorkshop$Row;", true)
  | 5 => ("LiftingWorkshop", "told", "LLiftingWorkshop$Row;", true)
  | 6 => ("LiftingWorkshop", "brought", "LLiftingWorkshop$Row;", true)
  | _ => ("LiftingWorkshop", "costAsLeaf", "[I", true)
def tyX4 : Nat → FieldType := fun k => match k with
  | 0 => .object "LiftingWorkshop$Tree"
  | 1 => .object "LiftingWorkshop$Lifting"
  | 2 => .object "LiftingWorkshop$Row"
  | 3 => .object "LiftingWorkshop$Code"
  | 4 => .object "LiftingWorkshop$Row"
  | 5 => .object "LiftingWorkshop$Row"
  | 6 => .object "LiftingWorkshop$Row"
  | _ => .array .int
abbrev wsX40 : List Cond := u_ws RX4 TX4 8
theorem nmX4 : ∀ a, a < 8 → ∀ b, b < 8 → a ≠ b → (TX4 a).2.1 ≠ (TX4 b).2.1 := by decide +kernel
theorem tyX4_ok : ∀ k, k < 8 → parseFieldDescriptor (TX4 k).2.2.1 = some (tyX4 k) := by decide +kernel
abbrev cX4_init : ByteArray := prog_1_method_1_code
def yX4_init : MethodName := ⟨RX4, "<init>", "()V"⟩
abbrev cX4_begin : ByteArray := prog_1_method_2_code
def yX4_begin : MethodName := ⟨RX4, "begin", "(I)I"⟩
abbrev cX4_setSample : ByteArray := prog_1_method_3_code
def yX4_setSample : MethodName := ⟨RX4, "setSample", "(II)J"⟩
abbrev cX4_sample : ByteArray := prog_1_method_4_code
def yX4_sample : MethodName := ⟨RX4, "sample", "(I)J"⟩
abbrev cX4_length : ByteArray := prog_1_method_5_code
def yX4_length : MethodName := ⟨RX4, "length", "()I"⟩
abbrev cX4_setWavelet : ByteArray := prog_1_method_6_code
def yX4_setWavelet : MethodName := ⟨RX4, "setWavelet", "(I)I"⟩
abbrev cX4_split : ByteArray := prog_1_method_7_code
def yX4_split : MethodName := ⟨RX4, "split", "(I)I"⟩
abbrev cX4_join : ByteArray := prog_1_method_8_code
def yX4_join : MethodName := ⟨RX4, "join", "(I)I"⟩
abbrev cX4_isNode : ByteArray := prog_1_method_9_code
def yX4_isNode : MethodName := ⟨RX4, "isNode", "(I)Z"⟩
abbrev cX4_isLeaf : ByteArray := prog_1_method_10_code
def yX4_isLeaf : MethodName := ⟨RX4, "isLeaf", "(I)Z"⟩
abbrev cX4_leaves : ByteArray := prog_1_method_11_code
def yX4_leaves : MethodName := ⟨RX4, "leaves", "()I"⟩
abbrev cX4_leafAt : ByteArray := prog_1_method_12_code
def yX4_leafAt : MethodName := ⟨RX4, "leafAt", "(I)I"⟩
abbrev cX4_costOf : ByteArray := prog_1_method_13_code
def yX4_costOf : MethodName := ⟨RX4, "costOf", "(I)I"⟩
abbrev cX4_chooseBasis : ByteArray := prog_1_method_14_code
def yX4_chooseBasis : MethodName := ⟨RX4, "chooseBasis", "(I)I"⟩
abbrev cX4_sizeOf : ByteArray := prog_1_method_15_code
def yX4_sizeOf : MethodName := ⟨RX4, "sizeOf", "(I)I"⟩
abbrev cX4_number : ByteArray := prog_1_method_16_code
def yX4_number : MethodName := ⟨RX4, "number", "(II)J"⟩
abbrev cX4_filtered : ByteArray := prog_1_method_18_code
def yX4_filtered : MethodName := ⟨RX4, "filtered", "(II)J"⟩
abbrev cX4_requireNode : ByteArray := prog_1_method_29_code
def yX4_requireNode : MethodName := ⟨RX4, "requireNode", "(I)V"⟩
abbrev cX4_requireLeaf : ByteArray := prog_1_method_30_code
def yX4_requireLeaf : MethodName := ⟨RX4, "requireLeaf", "(I)V"⟩
abbrev cX4_requireUnsplitRoot : ByteArray := prog_1_method_31_code
def yX4_requireUnsplitRoot : MethodName := ⟨RX4, "requireUnsplitRoot", "()V"⟩
abbrev cX4_requirePlaceInSignal : ByteArray := prog_1_method_33_code
def yX4_requirePlaceInSignal : MethodName := ⟨RX4, "requirePlaceInSignal", "(I)V"⟩
abbrev cX4_requirePlaceBelow : ByteArray := prog_1_method_34_code
def yX4_requirePlaceBelow : MethodName := ⟨RX4, "requirePlaceBelow", "(II)V"⟩
abbrev cX4_splitLeaf : ByteArray := prog_1_method_38_code
def yX4_splitLeaf : MethodName := ⟨RX4, "splitLeaf", "(I)V"⟩
abbrev cX4_joinBranch : ByteArray := prog_1_method_39_code
def yX4_joinBranch : MethodName := ⟨RX4, "joinBranch", "(I)I"⟩
abbrev cX4_uniteBranch : ByteArray := prog_1_method_40_code
def yX4_uniteBranch : MethodName := ⟨RX4, "uniteBranch", "(LLiftingWorkshop$Row;I)I"⟩
abbrev cX4_splitNodesBelow : ByteArray := prog_1_method_41_code
def yX4_splitNodesBelow : MethodName := ⟨RX4, "splitNodesBelow", "(I)V"⟩
abbrev cX4_joinWhereLeafCostsNoMore : ByteArray := prog_1_method_42_code
def yX4_joinWhereLeafCostsNoMore : MethodName := ⟨RX4, "joinWhereLeafCostsNoMore", "()V"⟩
abbrev cX4_branchCost : ByteArray := prog_1_method_43_code
def yX4_branchCost : MethodName := ⟨RX4, "branchCost", "(I)I"⟩
abbrev cX4_digits : ByteArray := prog_1_method_44_code
def yX4_digits : MethodName := ⟨RX4, "digits", "(J)I"⟩
abbrev cX4_gatherSamples : ByteArray := prog_1_method_45_code
def yX4_gatherSamples : MethodName := ⟨RX4, "gatherSamples", "()V"⟩
def RX5 : String := "LiftingWorkshopModel"
def TX5 : u_T := fun k => match k with
  | _ => ("", "", "", false)
def tyX5 : Nat → FieldType := fun k => match k with
  | _ => .int
abbrev wsX50 : List Cond := u_ws RX5 TX5 0
theorem nmX5 : ∀ a, a < 0 → ∀ b, b < 0 → a ≠ b → (TX5 a).2.1 ≠ (TX5 b).2.1 := by decide +kernel
theorem tyX5_ok : ∀ k, k < 0 → parseFieldDescriptor (TX5 k).2.2.1 = some (tyX5 k) := by decide +kernel
def RL : String := "LiftingWorkshopLaw"
abbrev cL_cell : ByteArray := method_2_code
def yL_cell : MethodName := ⟨RL, "cell", "([II)I"⟩
abbrev cL_at : ByteArray := method_3_code
def yL_at : MethodName := ⟨RL, "at", "(II)I"⟩
abbrev cL_back : ByteArray := method_4_code
def yL_back : MethodName := ⟨RL, "back", "(LLiftingWorkshop;[II)Z"⟩
abbrev cL_covers : ByteArray := method_5_code
def yL_covers : MethodName := ⟨RL, "covers", "(LLiftingWorkshop;I)Z"⟩
abbrev cL_splits : ByteArray := method_6_code
def yL_splits : MethodName := ⟨RL, "splits", "(LLiftingWorkshop;II[J)Z"⟩
abbrev cL_signal : ByteArray := method_7_code
def yL_signal : MethodName := ⟨RL, "signal", "(LLiftingWorkshop;II[I[J)Z"⟩
abbrev cL_law : ByteArray := code
def yL_law : MethodName := ⟨RL, "law", "([I)Z"⟩
abbrev vwCl : List vw_C := [(RX0, TX0, 8), (RX1, TX1, 2), (RX2, TX2, 1), (RX3, TX3, 2), (RX4, TX4, 8)]
end
section
/-! TABLES OF THE PURE INTERPRETER, written by wip/whole/gen/out1.py out of what TURN printed -/
-- 0: X0.init
-- 1: X0.count
-- 2: X0.bit
-- 3: X0.write
-- 4: X0.tell
-- 5: X0.knownDownTo
-- 6: X0.measureReach
-- 7: X0.writeFirstPass
-- 8: X0.writeSecondPass
-- 9: X0.isLeftOut
-- 10: X0.hasDescendants
-- 11: X0.parentOf
-- 12: X0.put
-- 13: X0.putTelling
-- 14: X1.init
-- 15: X1.wavelet
-- 16: X1.use
-- 17: X1.divide
-- 18: X1.unite
-- 19: X1.steps
-- 20: X1.lift
-- 21: X1.oddChange
-- 22: X1.evenChange
-- 23: X2.init
-- 24: X2.get
-- 25: X2.set
-- 26: X2.magnitude
-- 27: X2.clear
-- 28: X2.copy
-- 29: X3.init
-- 30: X3.width
-- 31: X3.plant
-- 32: X3.exists
-- 33: X3.hasChildren
-- 34: X3.canBeSplit
-- 35: X3.giveChildren
-- 36: X3.takeChildren
-- 37: X3.isWithin
-- 38: X3.levelOf
-- 39: X3.widthOf
-- 40: X3.startOf
-- 41: X3.leafOver
-- 42: X3.leafCount
-- 43: X4.init
-- 44: X4.begin
-- 45: X4.setSample
-- 46: X4.sample
-- 47: X4.length
-- 48: X4.setWavelet
-- 49: X4.split
-- 50: X4.join
-- 51: X4.isNode
-- 52: X4.isLeaf
-- 53: X4.leaves
-- 54: X4.leafAt
-- 55: X4.costOf
-- 56: X4.chooseBasis
-- 57: X4.sizeOf
-- 58: X4.number
-- 59: X4.setNumber
-- 60: X4.filtered
-- 61: X4.hard
-- 62: X4.soft
-- 63: X4.risk
-- 64: X4.bestThreshold
-- 65: X4.isPyramid
-- 66: X4.bits
-- 67: X4.bitAt
-- 68: X4.broughtBack
-- 69: X4.errorWith
-- 70: X4.bitsFor
-- 71: X4.requireNode
-- 72: X4.requireLeaf
-- 73: X4.requireUnsplitRoot
-- 74: X4.requirePyramid
-- 75: X4.requirePlaceInSignal
-- 76: X4.requirePlaceBelow
-- 77: X4.requireThreshold
-- 78: X4.requireNoise
-- 79: X4.requireNotNegative
-- 80: X4.splitLeaf
-- 81: X4.joinBranch
-- 82: X4.uniteBranch
-- 83: X4.splitNodesBelow
-- 84: X4.joinWhereLeafCostsNoMore
-- 85: X4.branchCost
-- 86: X4.digits
-- 87: X4.gatherSamples
-- 88: X4.zeroUpTo
-- 89: X4.softRisk
-- 90: X4.encode
-- 91: X4.readFirst
-- 92: X4.bringBack
-- 93: X4.errorOfBrought
-- 94: L.cell
-- 95: L.at
-- 96: L.back
-- 97: L.covers
-- 98: L.splits
-- 99: L.signal
-- 100: L.law
def p_c0 : List (Nat × Instr) := [(0, .aload_n 0), (1, .invokespecial 5), (4, .aload_n 0), (5, .new 11), (8, .dup), (9, .invokespecial 13), (12, .putfield 14), (15, .aload_n 0), (16, .new 11), (19, .dup), (20, .invokespecial 13), (23, .putfield 18), (26, .aload_n 0), (27, .sipush 4038), (30, .newarray .byte), (32, .putfield 21), (35, .aload_n 0), (36, .sipush 4038), (39, .newarray .byte), (41, .putfield 25), (44, .aload_n 0), (45, .sipush 4038), (48, .newarray .byte), (50, .putfield 28), (53, .return_)]
def p_c1 : List (Nat × Instr) := []
def p_c2 : List (Nat × Instr) := []
def p_c3 : List (Nat × Instr) := []
def p_c4 : List (Nat × Instr) := []
def p_c5 : List (Nat × Instr) := []
def p_c6 : List (Nat × Instr) := []
def p_c7 : List (Nat × Instr) := []
def p_c8 : List (Nat × Instr) := []
def p_c9 : List (Nat × Instr) := []
def p_c10 : List (Nat × Instr) := []
def p_c11 : List (Nat × Instr) := []
def p_c12 : List (Nat × Instr) := []
def p_c13 : List (Nat × Instr) := []
def p_c14 : List (Nat × Instr) := [(0, .aload_n 0), (1, .invokespecial 3), (4, .aload_n 0), (5, .new 9), (8, .dup), (9, .invokespecial 11), (12, .putfield 12), (15, .aload_n 0), (16, .iconst 0), (17, .putfield 18), (20, .return_)]
def p_c15 : List (Nat × Instr) := [(0, .aload_n 0), (1, .getfield 18), (4, .ireturn)]
def p_c16 : List (Nat × Instr) := [(0, .aload_n 0), (1, .iload_n 1), (2, .putfield 18), (5, .return_)]
def p_c17 : List (Nat × Instr) := [(0, .aload_n 0), (1, .getfield 12), (4, .aload_n 1), (5, .invokevirtual 22), (8, .iconst 0), (9, .istore 4), (11, .iload 4), (13, .iload_n 3), (14, .if_icmp .ge 55), (17, .aload_n 1), (18, .iload_n 2), (19, .iload 4), (21, .iadd), (22, .aload_n 0), (23, .getfield 12), (26, .iload_n 2), (27, .iconst 2), (28, .iload 4), (30, .imul), (31, .iadd), (32, .invokevirtual 26), (35, .invokevirtual 30), (38, .aload_n 1), (39, .iload_n 2), (40, .iload_n 3), (41, .iadd), (42, .iload 4), (44, .iadd), (45, .aload_n 0), (46, .getfield 12), (49, .iload_n 2), (50, .iconst 2), (51, .iload 4), (53, .imul), (54, .iadd), (55, .iconst 1), (56, .iadd), (57, .invokevirtual 26), (60, .invokevirtual 30), (63, .iinc 4 1), (66, .goto (-55)), (69, .iconst 0), (70, .istore 4), (72, .iload 4), (74, .aload_n 0), (75, .invokevirtual 34), (78, .if_icmp .ge 19), (81, .aload_n 0), (82, .aload_n 1), (83, .iload_n 2), (84, .iload_n 3), (85, .iload 4), (87, .iconst 1), (88, .invokevirtual 38), (91, .iinc 4 1), (94, .goto (-22)), (97, .return_)]
def p_c18 : List (Nat × Instr) := [(0, .aload_n 0), (1, .invokevirtual 34), (4, .iconst 1), (5, .isub), (6, .istore 4), (8, .iload 4), (10, .ifCond .lt 19), (13, .aload_n 0), (14, .aload_n 1), (15, .iload_n 2), (16, .iload_n 3), (17, .iload 4), (19, .iconst (-1)), (20, .invokevirtual 38), (23, .iinc 4 (-1)), (26, .goto (-18)), (29, .aload_n 0), (30, .getfield 12), (33, .aload_n 1), (34, .invokevirtual 22), (37, .iconst 0), (38, .istore 4), (40, .iload 4), (42, .iload_n 3), (43, .if_icmp .ge 55), (46, .aload_n 1), (47, .iload_n 2), (48, .iconst 2), (49, .iload 4), (51, .imul), (52, .iadd), (53, .aload_n 0), (54, .getfield 12), (57, .iload_n 2), (58, .iload 4), (60, .iadd), (61, .invokevirtual 26), (64, .invokevirtual 30), (67, .aload_n 1), (68, .iload_n 2), (69, .iconst 2), (70, .iload 4), (72, .imul), (73, .iadd), (74, .iconst 1), (75, .iadd), (76, .aload_n 0), (77, .getfield 12), (80, .iload_n 2), (81, .iload_n 3), (82, .iadd), (83, .iload 4), (85, .iadd), (86, .invokevirtual 26), (89, .invokevirtual 30), (92, .iinc 4 1), (95, .goto (-55)), (98, .return_)]
def p_c19 : List (Nat × Instr) := [(0, .aload_n 0), (1, .getfield 18), (4, .iconst 2), (5, .if_icmp .ne 7), (8, .iconst 4), (9, .goto 4), (12, .iconst 2), (13, .ireturn)]
def p_c20 : List (Nat × Instr) := [(0, .iload_n 2), (1, .iload_n 3), (2, .iadd), (3, .istore 6), (5, .iconst 0), (6, .istore 7), (8, .iload 7), (10, .iload_n 3), (11, .if_icmp .ge 152), (14, .iload 4), (16, .iconst 2), (17, .irem), (18, .ifCond .ne 75), (21, .iload 7), (23, .iconst 1), (24, .iadd), (25, .iload_n 3), (26, .if_icmp .ge 10), (29, .iload 7), (31, .iconst 1), (32, .iadd), (33, .goto 6), (36, .iload_n 3), (37, .iconst 1), (38, .isub), (39, .istore 8), (41, .aload_n 0), (42, .iload 4), (44, .aload_n 1), (45, .iload_n 2), (46, .iload 7), (48, .iadd), (49, .invokevirtual 26), (52, .aload_n 1), (53, .iload_n 2), (54, .iload 8), (56, .iadd), (57, .invokevirtual 26), (60, .invokevirtual 42), (63, .lstore 9), (65, .aload_n 1), (66, .iload 6), (68, .iload 7), (70, .iadd), (71, .aload_n 1), (72, .iload 6), (74, .iload 7), (76, .iadd), (77, .invokevirtual 26), (80, .iload 5), (82, .i2l), (83, .lload 9), (85, .lmul), (86, .ladd), (87, .invokevirtual 30), (90, .goto 67), (93, .iload 7), (95, .ifCond .le 10), (98, .iload 7), (100, .iconst 1), (101, .isub), (102, .goto 4), (105, .iconst 0), (106, .istore 8), (108, .aload_n 0), (109, .iload 4), (111, .aload_n 1), (112, .iload 6), (114, .iload 8), (116, .iadd), (117, .invokevirtual 26), (120, .aload_n 1), (121, .iload 6), (123, .iload 7), (125, .iadd), (126, .invokevirtual 26), (129, .invokevirtual 46), (132, .lstore 9), (134, .aload_n 1), (135, .iload_n 2), (136, .iload 7), (138, .iadd), (139, .aload_n 1), (140, .iload_n 2), (141, .iload 7), (143, .iadd), (144, .invokevirtual 26), (147, .iload 5), (149, .i2l), (150, .lload 9), (152, .lmul), (153, .ladd), (154, .invokevirtual 30), (157, .iinc 7 1), (160, .goto (-152)), (163, .return_)]
def p_c21 : List (Nat × Instr) := [(0, .aload_n 0), (1, .getfield 18), (4, .ifCond .ne 6), (7, .lload_n 2), (8, .lneg), (9, .lreturn), (10, .aload_n 0), (11, .getfield 18), (14, .iconst 1), (15, .if_icmp .ne 11), (18, .lload_n 2), (19, .lload 4), (21, .ladd), (22, .iconst 1), (23, .lshr), (24, .lneg), (25, .lreturn), (26, .iload_n 1), (27, .ifCond .ne 9), (30, .ldc2_w 49), (33, .goto 6), (36, .ldc2_w 51), (39, .lstore 6), (41, .lload 6), (43, .lload_n 2), (44, .lload 4), (46, .ladd), (47, .lmul), (48, .ldc2_w 53), (51, .ladd), (52, .bipush 12), (54, .lshr), (55, .lreturn)]
def p_c22 : List (Nat × Instr) := [(0, .aload_n 0), (1, .getfield 18), (4, .ifCond .ne 8), (7, .lload 4), (9, .iconst 1), (10, .lshr), (11, .lreturn), (12, .aload_n 0), (13, .getfield 18), (16, .iconst 1), (17, .if_icmp .ne 14), (20, .lload_n 2), (21, .lload 4), (23, .ladd), (24, .ldc2_w 55), (27, .ladd), (28, .iconst 2), (29, .lshr), (30, .lreturn), (31, .iload_n 1), (32, .iconst 1), (33, .if_icmp .ne 9), (36, .ldc2_w 57), (39, .goto 6), (42, .ldc2_w 59), (45, .lstore 6), (47, .lload 6), (49, .lload_n 2), (50, .lload 4), (52, .ladd), (53, .lmul), (54, .ldc2_w 53), (57, .ladd), (58, .bipush 12), (60, .lshr), (61, .lreturn)]
def p_c23 : List (Nat × Instr) := [(0, .aload_n 0), (1, .invokespecial 3), (4, .aload_n 0), (5, .bipush 32), (7, .newarray .long), (9, .putfield 9), (12, .return_)]
def p_c24 : List (Nat × Instr) := [(0, .iload_n 1), (1, .ifCond .lt 21), (4, .iload_n 1), (5, .aload_n 0), (6, .getfield 9), (9, .arraylength), (10, .if_icmp .ge 12), (13, .aload_n 0), (14, .getfield 9), (17, .iload_n 1), (18, .laload), (19, .goto 4), (22, .lconst 0), (23, .lreturn)]
def p_c25 : List (Nat × Instr) := [(0, .iload_n 1), (1, .ifCond .lt 19), (4, .iload_n 1), (5, .aload_n 0), (6, .getfield 9), (9, .arraylength), (10, .if_icmp .ge 10), (13, .aload_n 0), (14, .getfield 9), (17, .iload_n 1), (18, .lload_n 2), (19, .lastore), (20, .return_)]
def p_c26 : List (Nat × Instr) := [(0, .aload_n 0), (1, .iload_n 1), (2, .invokevirtual 15), (5, .invokestatic 19), (8, .lreturn)]
def p_c27 : List (Nat × Instr) := [(0, .iconst 0), (1, .istore_n 1), (2, .iload_n 1), (3, .aload_n 0), (4, .getfield 9), (7, .arraylength), (8, .if_icmp .ge 16), (11, .aload_n 0), (12, .getfield 9), (15, .iload_n 1), (16, .lconst 0), (17, .lastore), (18, .iinc 1 1), (21, .goto (-19)), (24, .return_)]
def p_c28 : List (Nat × Instr) := [(0, .iconst 0), (1, .istore_n 2), (2, .iload_n 2), (3, .aload_n 0), (4, .getfield 9), (7, .arraylength), (8, .if_icmp .ge 20), (11, .aload_n 0), (12, .getfield 9), (15, .iload_n 2), (16, .aload_n 1), (17, .iload_n 2), (18, .invokevirtual 15), (21, .lastore), (22, .iinc 2 1), (25, .goto (-23)), (28, .return_)]
def p_c29 : List (Nat × Instr) := [(0, .aload_n 0), (1, .invokespecial 3), (4, .aload_n 0), (5, .bipush 8), (7, .newarray .boolean), (9, .putfield 9), (12, .aload_n 0), (13, .bipush 8), (15, .putfield 15), (18, .return_)]
def p_c30 : List (Nat × Instr) := [(0, .aload_n 0), (1, .getfield 15), (4, .ireturn)]
def p_c31 : List (Nat × Instr) := [(0, .aload_n 0), (1, .iload_n 1), (2, .putfield 15), (5, .aload_n 0), (6, .iconst 1), (7, .invokevirtual 19), (10, .return_)]
def p_c32 : List (Nat × Instr) := [(0, .iload_n 1), (1, .iconst 1), (2, .if_icmp .eq 24), (5, .iload_n 1), (6, .iconst 1), (7, .if_icmp .le 23), (10, .iload_n 1), (11, .bipush 16), (13, .if_icmp .ge 17), (16, .aload_n 0), (17, .iload_n 1), (18, .iconst 2), (19, .idiv), (20, .invokevirtual 23), (23, .ifCond .eq 7), (26, .iconst 1), (27, .goto 4), (30, .iconst 0), (31, .ireturn)]
def p_c33 : List (Nat × Instr) := [(0, .iload_n 1), (1, .ifCond .lt 25), (4, .iload_n 1), (5, .aload_n 0), (6, .getfield 9), (9, .arraylength), (10, .if_icmp .ge 16), (13, .aload_n 0), (14, .getfield 9), (17, .iload_n 1), (18, .baload), (19, .ifCond .eq 7), (22, .iconst 1), (23, .goto 4), (26, .iconst 0), (27, .ireturn)]
def p_c34 : List (Nat × Instr) := [(0, .aload_n 0), (1, .iload_n 1), (2, .invokevirtual 27), (5, .ifCond .eq 30), (8, .aload_n 0), (9, .iload_n 1), (10, .invokevirtual 23), (13, .ifCond .ne 22), (16, .iload_n 1), (17, .bipush 8), (19, .if_icmp .ge 16), (22, .aload_n 0), (23, .iload_n 1), (24, .invokevirtual 30), (27, .iconst 2), (28, .if_icmp .lt 7), (31, .iconst 1), (32, .goto 4), (35, .iconst 0), (36, .ireturn)]
def p_c35 : List (Nat × Instr) := [(0, .iload_n 1), (1, .ifCond .lt 19), (4, .iload_n 1), (5, .aload_n 0), (6, .getfield 9), (9, .arraylength), (10, .if_icmp .ge 10), (13, .aload_n 0), (14, .getfield 9), (17, .iload_n 1), (18, .iconst 1), (19, .bastore), (20, .return_)]
def p_c36 : List (Nat × Instr) := [(0, .iconst 1), (1, .istore_n 2), (2, .iload_n 2), (3, .aload_n 0), (4, .getfield 9), (7, .arraylength), (8, .if_icmp .ge 25), (11, .aload_n 0), (12, .iload_n 2), (13, .iload_n 1), (14, .invokevirtual 34), (17, .ifCond .eq 10), (20, .aload_n 0), (21, .getfield 9), (24, .iload_n 2), (25, .iconst 0), (26, .bastore), (27, .iinc 2 1), (30, .goto (-28)), (33, .return_)]
def p_c37 : List (Nat × Instr) := [(0, .aload_n 0), (1, .iload_n 1), (2, .invokevirtual 38), (5, .aload_n 0), (6, .iload_n 2), (7, .invokevirtual 38), (10, .isub), (11, .istore_n 3), (12, .iload_n 3), (13, .ifCond .lt 14), (16, .iload_n 1), (17, .iload_n 3), (18, .ishr), (19, .iload_n 2), (20, .if_icmp .ne 7), (23, .iconst 1), (24, .goto 4), (27, .iconst 0), (28, .ireturn)]
def p_c38 : List (Nat × Instr) := [(0, .iload_n 1), (1, .iconst 2), (2, .if_icmp .ge 5), (5, .iconst 0), (6, .ireturn), (7, .iload_n 1), (8, .iconst 4), (9, .if_icmp .ge 5), (12, .iconst 1), (13, .ireturn), (14, .iload_n 1), (15, .bipush 8), (17, .if_icmp .ge 7), (20, .iconst 2), (21, .goto 4), (24, .iconst 3), (25, .ireturn)]
def p_c39 : List (Nat × Instr) := [(0, .aload_n 0), (1, .getfield 15), (4, .aload_n 0), (5, .iload_n 1), (6, .invokevirtual 38), (9, .ishr), (10, .ireturn)]
def p_c40 : List (Nat × Instr) := [(0, .iload_n 1), (1, .iconst 1), (2, .aload_n 0), (3, .iload_n 1), (4, .invokevirtual 38), (7, .ishl), (8, .isub), (9, .aload_n 0), (10, .iload_n 1), (11, .invokevirtual 30), (14, .imul), (15, .ireturn)]
def p_c41 : List (Nat × Instr) := [(0, .iconst 1), (1, .istore_n 2), (2, .iconst 0), (3, .istore_n 3), (4, .iload_n 3), (5, .iconst 3), (6, .if_icmp .ge 43), (9, .aload_n 0), (10, .iload_n 2), (11, .invokevirtual 23), (14, .ifCond .eq 35), (17, .iconst 2), (18, .iload_n 2), (19, .imul), (20, .iconst 1), (21, .iadd), (22, .istore 4), (24, .iload_n 1), (25, .aload_n 0), (26, .iload 4), (28, .invokevirtual 41), (31, .if_icmp .ge 9), (34, .iconst 2), (35, .iload_n 2), (36, .imul), (37, .goto 5), (40, .iload 4), (42, .istore_n 2), (43, .iinc 3 1), (46, .goto (-42)), (49, .iload_n 2), (50, .ireturn)]
def p_c42 : List (Nat × Instr) := [(0, .iconst 1), (1, .istore_n 1), (2, .iconst 1), (3, .istore_n 2), (4, .iload_n 2), (5, .aload_n 0), (6, .getfield 9), (9, .arraylength), (10, .if_icmp .ge 21), (13, .aload_n 0), (14, .getfield 9), (17, .iload_n 2), (18, .baload), (19, .ifCond .eq 6), (22, .iinc 1 1), (25, .iinc 2 1), (28, .goto (-24)), (31, .iload_n 1), (32, .ireturn)]
def p_c43 : List (Nat × Instr) := [(0, .aload_n 0), (1, .invokespecial 1), (4, .aload_n 0), (5, .new 7), (8, .dup), (9, .invokespecial 9), (12, .putfield 10), (15, .aload_n 0), (16, .new 16), (19, .dup), (20, .invokespecial 18), (23, .putfield 19), (26, .aload_n 0), (27, .new 23), (30, .dup), (31, .invokespecial 25), (34, .putfield 26), (37, .aload_n 0), (38, .new 30), (41, .dup), (42, .invokespecial 32), (45, .putfield 33), (48, .aload_n 0), (49, .new 23), (52, .dup), (53, .invokespecial 25), (56, .putfield 37), (59, .aload_n 0), (60, .new 23), (63, .dup), (64, .invokespecial 25), (67, .putfield 40), (70, .aload_n 0), (71, .new 23), (74, .dup), (75, .invokespecial 25), (78, .putfield 43), (81, .aload_n 0), (82, .bipush 8), (84, .newarray .int), (86, .putfield 46), (89, .return_)]
def p_c44 : List (Nat × Instr) := [(0, .iload_n 1), (1, .iconst 4), (2, .if_icmp .eq 31), (5, .iload_n 1), (6, .bipush 8), (8, .if_icmp .eq 25), (11, .iload_n 1), (12, .bipush 16), (14, .if_icmp .eq 19), (17, .iload_n 1), (18, .bipush 32), (20, .if_icmp .eq 13), (23, .new 50), (26, .dup), (27, .ldc 52), (29, .invokespecial 54), (32, .athrow), (33, .aload_n 0), (34, .getfield 10), (37, .invokevirtual 57), (40, .istore_n 2), (41, .aload_n 0), (42, .getfield 10), (45, .iload_n 1), (46, .invokevirtual 61), (49, .aload_n 0), (50, .getfield 26), (53, .invokevirtual 65), (56, .iload_n 2), (57, .ireturn)]
def p_c45 : List (Nat × Instr) := [(0, .aload_n 0), (1, .iload_n 1), (2, .invokevirtual 68), (5, .iload_n 2), (6, .sipush (-1000)), (9, .if_icmp .lt 10), (12, .iload_n 2), (13, .sipush 1000), (16, .if_icmp .le 13), (19, .new 50), (22, .dup), (23, .ldc 71), (25, .invokespecial 54), (28, .athrow), (29, .aload_n 0), (30, .invokevirtual 73), (33, .aload_n 0), (34, .getfield 26), (37, .iload_n 1), (38, .invokevirtual 76), (41, .lstore_n 3), (42, .aload_n 0), (43, .getfield 26), (46, .iload_n 1), (47, .iload_n 2), (48, .i2l), (49, .invokevirtual 80), (52, .lload_n 3), (53, .lreturn)]
def p_c46 : List (Nat × Instr) := [(0, .aload_n 0), (1, .iload_n 1), (2, .invokevirtual 68), (5, .aload_n 0), (6, .invokevirtual 84), (9, .aload_n 0), (10, .getfield 37), (13, .iload_n 1), (14, .invokevirtual 76), (17, .lreturn)]
def p_c47 : List (Nat × Instr) := [(0, .aload_n 0), (1, .getfield 10), (4, .invokevirtual 57), (7, .ireturn)]
def p_c48 : List (Nat × Instr) := [(0, .iload_n 1), (1, .ifCond .lt 8), (4, .iload_n 1), (5, .iconst 2), (6, .if_icmp .le 13), (9, .new 50), (12, .dup), (13, .ldc 87), (15, .invokespecial 54), (18, .athrow), (19, .aload_n 0), (20, .invokevirtual 73), (23, .aload_n 0), (24, .getfield 19), (27, .invokevirtual 89), (30, .istore_n 2), (31, .aload_n 0), (32, .getfield 19), (35, .iload_n 1), (36, .invokevirtual 92), (39, .iload_n 2), (40, .ireturn)]
def p_c49 : List (Nat × Instr) := [(0, .aload_n 0), (1, .iload_n 1), (2, .invokevirtual 95), (5, .aload_n 0), (6, .getfield 10), (9, .iload_n 1), (10, .invokevirtual 98), (13, .ifCond .ne 13), (16, .new 102), (19, .dup), (20, .ldc 104), (22, .invokespecial 106), (25, .athrow), (26, .aload_n 0), (27, .iload_n 1), (28, .invokevirtual 107), (31, .aload_n 0), (32, .getfield 10), (35, .iload_n 1), (36, .invokevirtual 110), (39, .iconst 2), (40, .idiv), (41, .ireturn)]
def p_c50 : List (Nat × Instr) := [(0, .aload_n 0), (1, .iload_n 1), (2, .invokevirtual 95), (5, .aload_n 0), (6, .getfield 10), (9, .iload_n 1), (10, .invokevirtual 114), (13, .ifCond .ne 13), (16, .new 102), (19, .dup), (20, .ldc 117), (22, .invokespecial 106), (25, .athrow), (26, .aload_n 0), (27, .iload_n 1), (28, .invokevirtual 119), (31, .ireturn)]
def p_c51 : List (Nat × Instr) := [(0, .aload_n 0), (1, .getfield 10), (4, .iload_n 1), (5, .invokevirtual 122), (8, .ireturn)]
def p_c52 : List (Nat × Instr) := [(0, .aload_n 0), (1, .iload_n 1), (2, .invokevirtual 95), (5, .aload_n 0), (6, .getfield 10), (9, .iload_n 1), (10, .invokevirtual 114), (13, .ifCond .ne 7), (16, .iconst 1), (17, .goto 4), (20, .iconst 0), (21, .ireturn)]
def p_c53 : List (Nat × Instr) := [(0, .aload_n 0), (1, .getfield 10), (4, .invokevirtual 125), (7, .ireturn)]
def p_c54 : List (Nat × Instr) := [(0, .iload_n 1), (1, .ifCond .lt 14), (4, .iload_n 1), (5, .aload_n 0), (6, .getfield 10), (9, .invokevirtual 125), (12, .if_icmp .lt 13), (15, .new 128), (18, .dup), (19, .ldc 130), (21, .invokespecial 132), (24, .athrow), (25, .iconst 0), (26, .istore_n 2), (27, .iconst 0), (28, .istore_n 3), (29, .iload_n 3), (30, .iload_n 1), (31, .if_icmp .ge 27), (34, .iload_n 2), (35, .aload_n 0), (36, .getfield 10), (39, .aload_n 0), (40, .getfield 10), (43, .iload_n 2), (44, .invokevirtual 133), (47, .invokevirtual 110), (50, .iadd), (51, .istore_n 2), (52, .iinc 3 1), (55, .goto (-26)), (58, .aload_n 0), (59, .getfield 10), (62, .iload_n 2), (63, .invokevirtual 133), (66, .ireturn)]
def p_c55 : List (Nat × Instr) := [(0, .aload_n 0), (1, .iload_n 1), (2, .invokevirtual 95), (5, .aload_n 0), (6, .iload_n 1), (7, .invokevirtual 136), (10, .ireturn)]
def p_c56 : List (Nat × Instr) := [(0, .iload_n 1), (1, .iconst 1), (2, .if_icmp .lt 8), (5, .iload_n 1), (6, .iconst 3), (7, .if_icmp .le 13), (10, .new 50), (13, .dup), (14, .ldc 139), (16, .invokespecial 54), (19, .athrow), (20, .aload_n 0), (21, .iconst 1), (22, .invokevirtual 119), (25, .pop), (26, .aload_n 0), (27, .iconst 1), (28, .iload_n 1), (29, .ishl), (30, .invokevirtual 141), (33, .aload_n 0), (34, .invokevirtual 144), (37, .aload_n 0), (38, .iconst 1), (39, .invokevirtual 136), (42, .ireturn)]
def p_c57 : List (Nat × Instr) := [(0, .aload_n 0), (1, .iload_n 1), (2, .invokevirtual 95), (5, .aload_n 0), (6, .iload_n 1), (7, .invokevirtual 147), (10, .aload_n 0), (11, .getfield 10), (14, .iload_n 1), (15, .invokevirtual 110), (18, .ireturn)]
def p_c58 : List (Nat × Instr) := [(0, .aload_n 0), (1, .iload_n 1), (2, .invokevirtual 95), (5, .aload_n 0), (6, .iload_n 1), (7, .invokevirtual 147), (10, .aload_n 0), (11, .iload_n 2), (12, .aload_n 0), (13, .getfield 10), (16, .iload_n 1), (17, .invokevirtual 110), (20, .invokevirtual 150), (23, .aload_n 0), (24, .getfield 26), (27, .aload_n 0), (28, .getfield 10), (31, .iload_n 1), (32, .invokevirtual 154), (35, .iload_n 2), (36, .iadd), (37, .invokevirtual 76), (40, .lreturn)]
def p_c59 : List (Nat × Instr) := []
def p_c60 : List (Nat × Instr) := [(0, .aload_n 0), (1, .iload_n 1), (2, .invokevirtual 95), (5, .aload_n 0), (6, .iload_n 1), (7, .invokevirtual 147), (10, .aload_n 0), (11, .getfield 10), (14, .iload_n 1), (15, .invokevirtual 110), (18, .iconst 2), (19, .idiv), (20, .istore_n 3), (21, .aload_n 0), (22, .iload_n 2), (23, .iload_n 3), (24, .invokevirtual 150), (27, .aload_n 0), (28, .getfield 19), (31, .invokevirtual 89), (34, .iconst 2), (35, .if_icmp .ne 13), (38, .new 102), (41, .dup), (42, .ldc 161), (44, .invokespecial 106), (47, .athrow), (48, .aload_n 0), (49, .getfield 10), (52, .iload_n 1), (53, .invokevirtual 154), (56, .iconst 2), (57, .iload_n 2), (58, .imul), (59, .iadd), (60, .istore 4), (62, .aload_n 0), (63, .getfield 19), (66, .invokevirtual 89), (69, .ifCond .ne 25), (72, .aload_n 0), (73, .getfield 26), (76, .iload 4), (78, .iconst 1), (79, .iadd), (80, .invokevirtual 76), (83, .aload_n 0), (84, .getfield 26), (87, .iload 4), (89, .invokevirtual 76), (92, .lsub), (93, .lreturn), (94, .iload_n 2), (95, .iconst 1), (96, .iadd), (97, .iload_n 3), (98, .if_icmp .ge 10), (101, .iload 4), (103, .iconst 2), (104, .iadd), (105, .goto 5), (108, .iload 4), (110, .istore 5), (112, .ldc2_w 163), (115, .aload_n 0), (116, .getfield 26), (119, .iload 4), (121, .iconst 1), (122, .iadd), (123, .invokevirtual 76), (126, .lmul), (127, .aload_n 0), (128, .getfield 26), (131, .iload 4), (133, .invokevirtual 76), (136, .lsub), (137, .aload_n 0), (138, .getfield 26), (141, .iload 5), (143, .invokevirtual 76), (146, .lsub), (147, .lstore 6), (149, .lload 6), (151, .lconst 1), (152, .ladd), (153, .iconst 1), (154, .lshr), (155, .lreturn)]
def p_c61 : List (Nat × Instr) := []
def p_c62 : List (Nat × Instr) := []
def p_c63 : List (Nat × Instr) := []
def p_c64 : List (Nat × Instr) := []
def p_c65 : List (Nat × Instr) := []
def p_c66 : List (Nat × Instr) := []
def p_c67 : List (Nat × Instr) := []
def p_c68 : List (Nat × Instr) := []
def p_c69 : List (Nat × Instr) := []
def p_c70 : List (Nat × Instr) := []
def p_c71 : List (Nat × Instr) := [(0, .aload_n 0), (1, .getfield 10), (4, .iload_n 1), (5, .invokevirtual 122), (8, .ifCond .ne 13), (11, .new 128), (14, .dup), (15, .ldc 215), (17, .invokespecial 132), (20, .athrow), (21, .return_)]
def p_c72 : List (Nat × Instr) := [(0, .aload_n 0), (1, .getfield 10), (4, .iload_n 1), (5, .invokevirtual 114), (8, .ifCond .eq 13), (11, .new 102), (14, .dup), (15, .ldc 217), (17, .invokespecial 106), (20, .athrow), (21, .return_)]
def p_c73 : List (Nat × Instr) := [(0, .aload_n 0), (1, .getfield 10), (4, .iconst 1), (5, .invokevirtual 114), (8, .ifCond .eq 13), (11, .new 102), (14, .dup), (15, .ldc 219), (17, .invokespecial 106), (20, .athrow), (21, .return_)]
def p_c74 : List (Nat × Instr) := []
def p_c75 : List (Nat × Instr) := [(0, .aload_n 0), (1, .iload_n 1), (2, .aload_n 0), (3, .getfield 10), (6, .invokevirtual 57), (9, .invokevirtual 150), (12, .return_)]
def p_c76 : List (Nat × Instr) := [(0, .iload_n 1), (1, .ifCond .lt 8), (4, .iload_n 1), (5, .iload_n 2), (6, .if_icmp .lt 13), (9, .new 128), (12, .dup), (13, .ldc 227), (15, .invokespecial 132), (18, .athrow), (19, .return_)]
def p_c77 : List (Nat × Instr) := []
def p_c78 : List (Nat × Instr) := []
def p_c79 : List (Nat × Instr) := []
def p_c80 : List (Nat × Instr) := [(0, .aload_n 0), (1, .getfield 19), (4, .aload_n 0), (5, .getfield 26), (8, .aload_n 0), (9, .getfield 10), (12, .iload_n 1), (13, .invokevirtual 154), (16, .aload_n 0), (17, .getfield 10), (20, .iload_n 1), (21, .invokevirtual 110), (24, .iconst 2), (25, .idiv), (26, .invokevirtual 235), (29, .aload_n 0), (30, .getfield 10), (33, .iload_n 1), (34, .invokevirtual 239), (37, .return_)]
def p_c81 : List (Nat × Instr) := [(0, .aload_n 0), (1, .aload_n 0), (2, .getfield 26), (5, .iload_n 1), (6, .invokevirtual 242), (9, .istore_n 2), (10, .aload_n 0), (11, .getfield 10), (14, .iload_n 1), (15, .invokevirtual 246), (18, .iload_n 2), (19, .ireturn)]
def p_c82 : List (Nat × Instr) := [(0, .iconst 0), (1, .istore_n 3), (2, .bipush 7), (4, .istore 4), (6, .iload 4), (8, .iconst 1), (9, .if_icmp .lt 65), (12, .aload_n 0), (13, .getfield 10), (16, .iload 4), (18, .invokevirtual 114), (21, .ifCond .eq 47), (24, .aload_n 0), (25, .getfield 10), (28, .iload 4), (30, .iload_n 2), (31, .invokevirtual 249), (34, .ifCond .eq 34), (37, .aload_n 0), (38, .getfield 19), (41, .aload_n 1), (42, .aload_n 0), (43, .getfield 10), (46, .iload 4), (48, .invokevirtual 154), (51, .aload_n 0), (52, .getfield 10), (55, .iload 4), (57, .invokevirtual 110), (60, .iconst 2), (61, .idiv), (62, .invokevirtual 253), (65, .iinc 3 1), (68, .iinc 4 (-1)), (71, .goto (-65)), (74, .iload_n 3), (75, .ireturn)]
def p_c83 : List (Nat × Instr) := [(0, .iconst 1), (1, .istore_n 2), (2, .iload_n 2), (3, .iload_n 1), (4, .if_icmp .ge 56), (7, .iload_n 2), (8, .aload_n 0), (9, .getfield 46), (12, .arraylength), (13, .if_icmp .ge 47), (16, .aload_n 0), (17, .getfield 10), (20, .iload_n 2), (21, .invokevirtual 122), (24, .ifCond .eq 30), (27, .aload_n 0), (28, .getfield 46), (31, .iload_n 2), (32, .aload_n 0), (33, .iload_n 2), (34, .invokevirtual 136), (37, .iastore), (38, .aload_n 0), (39, .getfield 10), (42, .iload_n 2), (43, .invokevirtual 98), (46, .ifCond .eq 8), (49, .aload_n 0), (50, .iload_n 2), (51, .invokevirtual 107), (54, .iinc 2 1), (57, .goto (-55)), (60, .return_)]
def p_c84 : List (Nat × Instr) := [(0, .aload_n 0), (1, .getfield 46), (4, .arraylength), (5, .iconst 1), (6, .isub), (7, .istore_n 1), (8, .iload_n 1), (9, .iconst 1), (10, .if_icmp .lt 40), (13, .aload_n 0), (14, .getfield 10), (17, .iload_n 1), (18, .invokevirtual 114), (21, .ifCond .eq 23), (24, .aload_n 0), (25, .getfield 46), (28, .iload_n 1), (29, .iaload), (30, .aload_n 0), (31, .iload_n 1), (32, .invokevirtual 136), (35, .if_icmp .gt 9), (38, .aload_n 0), (39, .iload_n 1), (40, .invokevirtual 119), (43, .pop), (44, .iinc 1 (-1)), (47, .goto (-39)), (50, .return_)]
def p_c85 : List (Nat × Instr) := [(0, .iconst 0), (1, .istore_n 2), (2, .aload_n 0), (3, .getfield 10), (6, .iload_n 1), (7, .invokevirtual 154), (10, .aload_n 0), (11, .getfield 10), (14, .iload_n 1), (15, .invokevirtual 110), (18, .iadd), (19, .istore_n 3), (20, .aload_n 0), (21, .getfield 10), (24, .iload_n 1), (25, .invokevirtual 154), (28, .istore 4), (30, .iload 4), (32, .iload_n 3), (33, .if_icmp .ge 24), (36, .iload_n 2), (37, .aload_n 0), (38, .getfield 26), (41, .iload 4), (43, .invokevirtual 179), (46, .invokestatic 256), (49, .iadd), (50, .istore_n 2), (51, .iinc 4 1), (54, .goto (-24)), (57, .iload_n 2), (58, .ireturn)]
def p_c86 : List (Nat × Instr) := [(0, .iconst 0), (1, .istore_n 2), (2, .iload_n 2), (3, .bipush 63), (5, .if_icmp .ge 17), (8, .lload_n 0), (9, .iload_n 2), (10, .lshr), (11, .lconst 0), (12, .lcmp), (13, .ifCond .eq 9), (16, .iinc 2 1), (19, .goto (-17)), (22, .iload_n 2), (23, .ireturn)]
def p_c87 : List (Nat × Instr) := [(0, .aload_n 0), (1, .getfield 37), (4, .aload_n 0), (5, .getfield 26), (8, .invokevirtual 260), (11, .aload_n 0), (12, .aload_n 0), (13, .getfield 37), (16, .iconst 1), (17, .invokevirtual 242), (20, .pop), (21, .return_)]
def p_c88 : List (Nat × Instr) := []
def p_c89 : List (Nat × Instr) := []
def p_c90 : List (Nat × Instr) := []
def p_c91 : List (Nat × Instr) := []
def p_c92 : List (Nat × Instr) := []
def p_c93 : List (Nat × Instr) := []
def p_c94 : List (Nat × Instr) := [(0, .iload_n 1), (1, .aload_n 0), (2, .arraylength), (3, .if_icmp .ge 9), (6, .aload_n 0), (7, .iload_n 1), (8, .iaload), (9, .goto 9), (12, .ldc 7), (14, .iload_n 1), (15, .iconst 1), (16, .iadd), (17, .imul), (18, .ireturn)]
def p_c95 : List (Nat × Instr) := [(0, .iload_n 0), (1, .iconst 1), (2, .iushr), (3, .iload_n 1), (4, .irem), (5, .ireturn)]
def p_c96 : List (Nat × Instr) := [(0, .iconst 0), (1, .istore_n 3), (2, .iload_n 3), (3, .iload_n 2), (4, .if_icmp .ge 24), (7, .aload_n 0), (8, .iload_n 3), (9, .invokevirtual 8), (12, .aload_n 1), (13, .iload_n 3), (14, .iaload), (15, .i2l), (16, .lcmp), (17, .ifCond .eq 5), (20, .iconst 0), (21, .ireturn), (22, .iinc 3 1), (25, .goto (-23)), (28, .iconst 1), (29, .ireturn)]
def p_c97 : List (Nat × Instr) := [(0, .iconst 0), (1, .istore_n 2), (2, .iconst 0), (3, .istore_n 3), (4, .iconst 0), (5, .istore 4), (7, .iload 4), (9, .aload_n 0), (10, .invokevirtual 14), (13, .if_icmp .ge 109), (16, .aload_n 0), (17, .iload 4), (19, .invokevirtual 18), (22, .istore 5), (24, .iload 5), (26, .bipush 7), (28, .if_icmp .le 7), (31, .iconst 3), (32, .goto 24), (35, .iload 5), (37, .iconst 3), (38, .if_icmp .le 7), (41, .iconst 2), (42, .goto 14), (45, .iload 5), (47, .iconst 1), (48, .if_icmp .le 7), (51, .iconst 1), (52, .goto 4), (55, .iconst 0), (56, .istore 6), (58, .aload_n 0), (59, .iload 5), (61, .invokevirtual 22), (64, .ifCond .eq 32), (67, .aload_n 0), (68, .iload 5), (70, .invokevirtual 26), (73, .iload_n 1), (74, .iload 6), (76, .ishr), (77, .if_icmp .ne 19), (80, .iload 5), (82, .iconst 1), (83, .iload 6), (85, .ishl), (86, .isub), (87, .iload_n 1), (88, .iload 6), (90, .ishr), (91, .imul), (92, .iload_n 2), (93, .if_icmp .eq 5), (96, .iconst 0), (97, .ireturn), (98, .iload_n 2), (99, .aload_n 0), (100, .iload 5), (102, .invokevirtual 26), (105, .iadd), (106, .istore_n 2), (107, .iload_n 3), (108, .aload_n 0), (109, .iload 5), (111, .invokevirtual 29), (114, .iadd), (115, .istore_n 3), (116, .iinc 4 1), (119, .goto (-112)), (122, .iload_n 2), (123, .iload_n 1), (124, .if_icmp .ne 16), (127, .aload_n 0), (128, .iconst 1), (129, .invokevirtual 29), (132, .iload_n 3), (133, .if_icmp .ne 7), (136, .iconst 1), (137, .goto 4), (140, .iconst 0), (141, .ireturn)]
def p_c98 : List (Nat × Instr) := [(0, .aload_n 0), (1, .iload_n 1), (2, .invokevirtual 26), (5, .iconst 2), (6, .idiv), (7, .istore 4), (9, .iconst 0), (10, .istore 5), (12, .iload 5), (14, .iload 4), (16, .if_icmp .ge 25), (19, .iload_n 2), (20, .iconst 2), (21, .if_icmp .ge 20), (24, .aload_n 3), (25, .iload 5), (27, .aload_n 0), (28, .iload_n 1), (29, .iload 5), (31, .invokevirtual 32), (34, .lastore), (35, .iinc 5 1), (38, .goto (-26)), (41, .aload_n 0), (42, .iload_n 1), (43, .invokevirtual 36), (46, .iload 4), (48, .if_icmp .ne 33), (51, .aload_n 0), (52, .iload_n 1), (53, .invokevirtual 22), (56, .ifCond .ne 25), (59, .aload_n 0), (60, .iconst 2), (61, .iload_n 1), (62, .imul), (63, .invokevirtual 22), (66, .ifCond .eq 15), (69, .aload_n 0), (70, .iconst 2), (71, .iload_n 1), (72, .imul), (73, .iconst 1), (74, .iadd), (75, .invokevirtual 22), (78, .ifCond .ne 5), (81, .iconst 0), (82, .ireturn), (83, .iconst 0), (84, .istore 5), (86, .iload 5), (88, .iload 4), (90, .if_icmp .ge 35), (93, .iload_n 2), (94, .iconst 2), (95, .if_icmp .ge 30), (98, .aload_n 0), (99, .iconst 2), (100, .iload_n 1), (101, .imul), (102, .iconst 1), (103, .iadd), (104, .iload 5), (106, .invokevirtual 39), (109, .aload_n 3), (110, .iload 5), (112, .laload), (113, .lcmp), (114, .ifCond .eq 5), (117, .iconst 0), (118, .ireturn), (119, .iinc 5 1), (122, .goto (-36)), (125, .iconst 1), (126, .ireturn)]
def p_c99_0 : List (Nat × Instr) := [(0, .iconst 4), (1, .iload_n 1), (2, .iconst 4), (3, .invokestatic 42), (6, .ishl), (7, .istore 5), (9, .iload_n 1), (10, .iconst 3), (11, .ishr), (12, .iconst 3), (13, .invokestatic 42), (16, .istore 6), (18, .aload_n 0), (19, .invokevirtual 48), (22, .istore 7), (24, .aload_n 0), (25, .iload 5), (27, .invokevirtual 51), (30, .iload 7), (32, .if_icmp .ne 12), (35, .aload_n 0), (36, .iload 6), (38, .invokevirtual 54), (41, .ifCond .ge 5), (44, .iconst 0), (45, .ireturn), (46, .iload_n 1), (47, .iconst 5), (48, .ishr), (49, .iconst 4), (50, .invokestatic 42), (53, .istore 8), (55, .iconst 0), (56, .istore 9), (58, .iload 9), (60, .iload 5), (62, .if_icmp .ge 121), (65, .iload_n 1), (66, .sipush 15695), (69, .iload 9), (71, .imul), (72, .iadd), (73, .iload_n 2), (74, .iconst 1), (75, .ior), (76, .imul), (77, .ldc 57), (79, .iand), (80, .istore 10), (82, .aload_n 3), (83, .iload 9), (85, .iload 8), (87, .ifCond .ne 18), (90, .iload 10), (92, .sipush 2001), (95, .invokestatic 42), (98, .sipush 1000), (101, .isub), (102, .goto 57), (105, .iload 8), (107, .iconst 1), (108, .if_icmp .ne 15), (111, .bipush 30), (113, .iload 9), (115, .imul), (116, .sipush 1001), (119, .irem), (120, .goto 39), (123, .iload 8), (125, .iconst 2), (126, .if_icmp .ne 15), (129, .iload 10), (131, .bipush 7), (133, .invokestatic 42), (136, .iconst 3), (137, .isub), (138, .goto 21), (141, .iload 9), (143, .iload 5), (145, .iconst 2), (146, .idiv), (147, .if_icmp .ge 9), (150, .sipush (-1000)), (153, .goto 6), (156, .sipush 1000), (159, .iastore), (160, .aload_n 0), (161, .iload 9), (163, .aload_n 3), (164, .iload 9), (166, .iaload), (167, .invokevirtual 58), (170, .lconst 0), (171, .lcmp), (172, .ifCond .eq 5), (175, .iconst 0), (176, .ireturn), (177, .iinc 9 1), (180, .goto (-122)), (183, .iconst 0)]
def p_c99_1 : List (Nat × Instr) := [(184, .istore 9), (186, .iconst 0), (187, .istore 10), (189, .iload 10), (191, .bipush 9), (193, .if_icmp .ge 71), (196, .iconst 1), (197, .iload_n 2), (198, .iload 10), (200, .ishr), (201, .bipush 7), (203, .invokestatic 42), (206, .iadd), (207, .istore 11), (209, .aload_n 0), (210, .iload 11), (212, .invokevirtual 61), (215, .ifCond .eq 43), (218, .aload_n 0), (219, .iload 11), (221, .invokevirtual 22), (224, .ifCond .eq 34), (227, .aload_n 0), (228, .iload 11), (230, .invokevirtual 26), (233, .iconst 2), (234, .if_icmp .ge 6), (237, .goto 21), (240, .aload_n 0), (241, .iload 11), (243, .iload 6), (245, .aload 4), (247, .invokestatic 64), (250, .ifCond .ne 5), (253, .iconst 0), (254, .ireturn), (255, .iinc 9 1), (258, .iinc 10 1), (261, .goto (-72)), (264, .aload_n 0), (265, .iload 5), (267, .invokestatic 68), (270, .ifCond .eq 24), (273, .aload_n 0), (274, .aload_n 3), (275, .iload 5), (277, .invokestatic 72), (280, .ifCond .eq 14), (283, .aload_n 0), (284, .invokevirtual 14), (287, .iload 9), (289, .iconst 1), (290, .iadd), (291, .if_icmp .eq 5), (294, .iconst 0), (295, .ireturn), (296, .aload_n 0), (297, .iconst 1), (298, .invokevirtual 29), (301, .istore 10), (303, .iload 9), (305, .ifCond .le 13), (308, .aload_n 0), (309, .iconst 1), (310, .invokevirtual 76), (313, .iload 9), (315, .if_icmp .ne 13), (318, .aload_n 0), (319, .aload_n 3), (320, .iload 5), (322, .invokestatic 72), (325, .ifCond .ne 5), (328, .iconst 0), (329, .ireturn), (330, .aload_n 0), (331, .iconst 1), (332, .invokevirtual 29), (335, .istore 11), (337, .aload_n 0), (338, .iconst 3), (339, .invokevirtual 79), (342, .istore 12), (344, .iload 12), (346, .aload_n 0), (347, .iconst 1), (348, .invokevirtual 29), (351, .if_icmp .ne 36), (354, .iload 12), (356, .iload 10), (358, .if_icmp .gt 29), (361, .iload 12), (363, .iload 11), (365, .if_icmp .gt 22), (368, .aload_n 0), (369, .iload 5), (371, .invokestatic 68), (374, .ifCond .eq 13), (377, .aload_n 0), (378, .aload_n 3), (379, .iload 5)]
def p_c99_2 : List (Nat × Instr) := [(381, .invokestatic 72), (384, .ifCond .ne 5), (387, .iconst 0), (388, .ireturn), (389, .aload_n 0), (390, .iconst 1), (391, .invokevirtual 79), (394, .istore 13), (396, .aload_n 0), (397, .iconst 2), (398, .invokevirtual 79), (401, .istore 14), (403, .iload 12), (405, .iload 14), (407, .if_icmp .gt 27), (410, .iload 14), (412, .iload 13), (414, .if_icmp .gt 20), (417, .iload 13), (419, .iload 11), (421, .if_icmp .gt 13), (424, .aload_n 0), (425, .aload_n 3), (426, .iload 5), (428, .invokestatic 72), (431, .ifCond .ne 5), (434, .iconst 0), (435, .ireturn), (436, .aload_n 0), (437, .iconst 1), (438, .invokevirtual 22), (441, .ifCond .ne 14), (444, .aload_n 0), (445, .iconst 1), (446, .invokevirtual 76), (449, .iconst 1), (450, .if_icmp .ge 5), (453, .iconst 0), (454, .ireturn), (455, .iconst 0), (456, .istore 15), (458, .iload 15), (460, .iload 5), (462, .if_icmp .ge 27), (465, .aload_n 0), (466, .iconst 1), (467, .iload 15), (469, .invokevirtual 39), (472, .aload_n 3), (473, .iload 15), (475, .iaload), (476, .i2l), (477, .lcmp), (478, .ifCond .eq 5), (481, .iconst 0), (482, .ireturn), (483, .iinc 15 1), (486, .goto (-28)), (489, .aload_n 0), (490, .iconst 1), (491, .invokevirtual 29), (494, .iload 11), (496, .if_icmp .ne 7), (499, .iconst 1), (500, .goto 4), (503, .iconst 0), (504, .ireturn)]
def p_c99 : List (Nat × Instr) := p_c99_0 ++ (p_c99_1 ++ (p_c99_2))
def p_c100 : List (Nat × Instr) := [(0, .new 9), (3, .dup), (4, .invokespecial 82), (7, .astore_n 1), (8, .bipush 32), (10, .newarray .int), (12, .astore_n 2), (13, .bipush 16), (15, .newarray .long), (17, .astore_n 3), (18, .iconst 0), (19, .istore 4), (21, .iload 4), (23, .bipush 12), (25, .if_icmp .ge 44), (28, .aload_n 1), (29, .aload_n 0), (30, .iconst 2), (31, .iload 4), (33, .imul), (34, .invokestatic 83), (37, .ldc 57), (39, .iand), (40, .aload_n 0), (41, .iconst 2), (42, .iload 4), (44, .imul), (45, .iconst 1), (46, .iadd), (47, .invokestatic 83), (50, .ldc 57), (52, .iand), (53, .aload_n 2), (54, .aload_n 3), (55, .invokestatic 87), (58, .ifCond .ne 5), (61, .iconst 0), (62, .ireturn), (63, .iinc 4 1), (66, .goto (-45)), (69, .iconst 1), (70, .ireturn)]
def p_codes : List (List (Nat × Instr)) := [p_c0, p_c1, p_c2, p_c3, p_c4, p_c5, p_c6, p_c7, p_c8, p_c9, p_c10, p_c11, p_c12, p_c13, p_c14, p_c15, p_c16, p_c17, p_c18, p_c19, p_c20, p_c21, p_c22, p_c23, p_c24, p_c25, p_c26, p_c27, p_c28, p_c29, p_c30, p_c31, p_c32, p_c33, p_c34, p_c35, p_c36, p_c37, p_c38, p_c39, p_c40, p_c41, p_c42, p_c43, p_c44, p_c45, p_c46, p_c47, p_c48, p_c49, p_c50, p_c51, p_c52, p_c53, p_c54, p_c55, p_c56, p_c57, p_c58, p_c59, p_c60, p_c61, p_c62, p_c63, p_c64, p_c65, p_c66, p_c67, p_c68, p_c69, p_c70, p_c71, p_c72, p_c73, p_c74, p_c75, p_c76, p_c77, p_c78, p_c79, p_c80, p_c81, p_c82, p_c83, p_c84, p_c85, p_c86, p_c87, p_c88, p_c89, p_c90, p_c91, p_c92, p_c93, p_c94, p_c95, p_c96, p_c97, p_c98, p_c99, p_c100]
def p_at (mi pc : Nat) : Option Instr := match p_codes[mi]? with
  | some l => l.lookup pc
  | none => none
def p_ownT : List Nat := [0, 0, 0, 0, 0, 0, 0, 0, 0, 0, 0, 0, 0, 0, 1, 1, 1, 1, 1, 1, 1, 1, 1, 2, 2, 2, 2, 2, 2, 3, 3, 3, 3, 3, 3, 3, 3, 3, 3, 3, 3, 3, 3, 4, 4, 4, 4, 4, 4, 4, 4, 4, 4, 4, 4, 4, 4, 4, 4, 4, 4, 4, 4, 4, 4, 4, 4, 4, 4, 4, 4, 4, 4, 4, 4, 4, 4, 4, 4, 4, 4, 4, 4, 4, 4, 4, 4, 4, 4, 4, 4, 4, 4, 4, 6, 6, 6, 6, 6, 6, 6]
def p_own (mi : Nat) : Nat := p_ownT.getD mi 99
def p_mlT : List Nat := [1, 0, 0, 0, 0, 0, 0, 0, 0, 0, 0, 0, 0, 0, 1, 1, 2, 5, 5, 1, 11, 8, 8, 1, 2, 4, 2, 2, 3, 1, 1, 2, 2, 2, 2, 2, 3, 4, 2, 2, 2, 5, 3, 1, 3, 5, 2, 1, 3, 2, 2, 2, 2, 1, 4, 2, 2, 2, 3, 0, 8, 0, 0, 0, 0, 0, 0, 0, 0, 0, 0, 2, 2, 1, 0, 2, 3, 0, 0, 0, 2, 3, 5, 3, 2, 5, 3, 1, 0, 0, 0, 0, 0, 0, 2, 2, 4, 7, 6, 16, 5]
def p_ml (mi : Nat) : Nat := p_mlT.getD mi 0
def p_rtT : List (Option FieldType) := [none, none, none, none, none, none, none, none, none, none, none, none, none, none, none, (some .int), none, none, none, (some .int), none, (some .long), (some .long), none, (some .long), none, (some .long), none, none, none, (some .int), none, (some .boolean), (some .boolean), (some .boolean), none, none, (some .boolean), (some .int), (some .int), (some .int), (some .int), (some .int), none, (some .int), (some .long), (some .long), (some .int), (some .int), (some .int), (some .int), (some .boolean), (some .boolean), (some .int), (some .int), (some .int), (some .int), (some .int), (some .long), none, (some .long), none, none, none, none, none, none, none, none, none, none, none, none, none, none, none, none, none, none, none, none, (some .int), (some .int), none, none, (some .int), (some .int), none, none, none, none, none, none, none, (some .int), (some .int), (some .boolean), (some .boolean), (some .boolean), (some .boolean), (some .boolean)]
def p_rt (mi : Nat) : Option FieldType := p_rtT.getD mi none
def p_rFT : List Nat := [0, 0, 0, 0, 0, 0, 0, 0, 0, 0, 0, 0, 0, 0, 0, 0, 0, 2, 2, 0, 1, 0, 0, 0, 0, 0, 1, 0, 1, 0, 0, 3, 1, 0, 2, 0, 2, 1, 0, 1, 2, 3, 0, 0, 6, 8, 8, 1, 7, 7, 7, 2, 7, 1, 6, 7, 6, 7, 7, 0, 7, 0, 0, 0, 0, 0, 0, 0, 0, 0, 0, 6, 6, 6, 0, 7, 6, 0, 0, 0, 3, 4, 3, 4, 5, 3, 0, 4, 0, 0, 0, 0, 0, 0, 0, 0, 9, 8, 8, 10, 11]
def p_rF (mi : Nat) : Nat := p_rFT.getD mi 0
def p_rLT : List Nat := [0, 0, 0, 0, 0, 0, 0, 0, 0, 0, 0, 0, 0, 0, 0, 0, 0, 57, 57, 0, 27, 0, 0, 0, 0, 0, 24, 0, 21, 0, 0, 66, 21, 0, 42, 0, 44, 21, 0, 21, 42, 63, 0, 0, 87, 125, 125, 20, 102, 103, 127, 42, 103, 22, 87, 103, 148, 103, 104, 0, 104, 0, 0, 0, 0, 0, 0, 0, 0, 0, 0, 82, 82, 82, 0, 104, 82, 0, 0, 0, 81, 105, 81, 102, 127, 63, 0, 105, 0, 0, 0, 0, 0, 0, 0, 0, 146, 124, 131, 169, 204]
def p_rL (mi : Nat) : Nat := p_rLT.getD mi 0
def p_virtT : List Bool := [true, true, true, true, true, true, true, true, true, true, true, true, true, true, true, true, true, true, true, true, true, true, true, true, true, true, true, true, true, true, true, true, true, true, true, true, true, true, true, true, true, true, true, true, true, true, true, true, true, true, true, true, true, true, true, true, true, true, true, true, true, true, true, true, true, true, true, true, true, true, true, true, true, true, true, true, true, true, true, true, true, true, true, true, true, true, false, true, true, true, true, true, true, true, false, false, false, false, false, false, false]
def p_virt (mi : Nat) : Bool := p_virtT.getD mi false
def p_hhT : List (List (Nat × Nat × Nat × Nat)) := [[], [], [], [], [], [], [], [], [], [], [], [], [], [], [], [], [], [], [], [], [], [], [], [], [], [], [], [], [], [], [], [], [], [], [], [], [], [], [], [], [], [], [], [], [], [], [], [], [], [], [], [], [], [], [], [], [], [], [], [], [], [], [], [], [], [], [], [], [], [], [], [], [], [], [], [], [], [], [], [], [], [], [], [], [], [], [], [], [], [], [], [], [], [], [], [], [], [], [], [], []]
def p_hh (mi : Nat) : List (Nat × Nat × Nat × Nat) := p_hhT.getD mi []
def p_yT : List MethodName := [yX0_init, yX0_init, yX0_init, yX0_init, yX0_init, yX0_init, yX0_init, yX0_init, yX0_init, yX0_init, yX0_init, yX0_init, yX0_init, yX0_init, yX1_init, yX1_wavelet, yX1_use, yX1_divide, yX1_unite, yX1_steps, yX1_lift, yX1_oddChange, yX1_evenChange, yX2_init, yX2_get, yX2_set, yX2_magnitude, yX2_clear, yX2_copy, yX3_init, yX3_width, yX3_plant, yX3_exists, yX3_hasChildren, yX3_canBeSplit, yX3_giveChildren, yX3_takeChildren, yX3_isWithin, yX3_levelOf, yX3_widthOf, yX3_startOf, yX3_leafOver, yX3_leafCount, yX4_init, yX4_begin, yX4_setSample, yX4_sample, yX4_length, yX4_setWavelet, yX4_split, yX4_join, yX4_isNode, yX4_isLeaf, yX4_leaves, yX4_leafAt, yX4_costOf, yX4_chooseBasis, yX4_sizeOf, yX4_number, yX0_init, yX4_filtered, yX0_init, yX0_init, yX0_init, yX0_init, yX0_init, yX0_init, yX0_init, yX0_init, yX0_init, yX0_init, yX4_requireNode, yX4_requireLeaf, yX4_requireUnsplitRoot, yX0_init, yX4_requirePlaceInSignal, yX4_requirePlaceBelow, yX0_init, yX0_init, yX0_init, yX4_splitLeaf, yX4_joinBranch, yX4_uniteBranch, yX4_splitNodesBelow, yX4_joinWhereLeafCostsNoMore, yX4_branchCost, yX4_digits, yX4_gatherSamples, yX0_init, yX0_init, yX0_init, yX0_init, yX0_init, yX0_init, yL_cell, yL_at, yL_back, yL_covers, yL_splits, yL_signal, yL_law]
def p_y (mi : Nat) : MethodName := p_yT.getD mi yX0_init
def p_bT : List ByteArray := [cX0_init, cX0_init, cX0_init, cX0_init, cX0_init, cX0_init, cX0_init, cX0_init, cX0_init, cX0_init, cX0_init, cX0_init, cX0_init, cX0_init, cX1_init, cX1_wavelet, cX1_use, cX1_divide, cX1_unite, cX1_steps, cX1_lift, cX1_oddChange, cX1_evenChange, cX2_init, cX2_get, cX2_set, cX2_magnitude, cX2_clear, cX2_copy, cX3_init, cX3_width, cX3_plant, cX3_exists, cX3_hasChildren, cX3_canBeSplit, cX3_giveChildren, cX3_takeChildren, cX3_isWithin, cX3_levelOf, cX3_widthOf, cX3_startOf, cX3_leafOver, cX3_leafCount, cX4_init, cX4_begin, cX4_setSample, cX4_sample, cX4_length, cX4_setWavelet, cX4_split, cX4_join, cX4_isNode, cX4_isLeaf, cX4_leaves, cX4_leafAt, cX4_costOf, cX4_chooseBasis, cX4_sizeOf, cX4_number, cX0_init, cX4_filtered, cX0_init, cX0_init, cX0_init, cX0_init, cX0_init, cX0_init, cX0_init, cX0_init, cX0_init, cX0_init, cX4_requireNode, cX4_requireLeaf, cX4_requireUnsplitRoot, cX0_init, cX4_requirePlaceInSignal, cX4_requirePlaceBelow, cX0_init, cX0_init, cX0_init, cX4_splitLeaf, cX4_joinBranch, cX4_uniteBranch, cX4_splitNodesBelow, cX4_joinWhereLeafCostsNoMore, cX4_branchCost, cX4_digits, cX4_gatherSamples, cX0_init, cX0_init, cX0_init, cX0_init, cX0_init, cX0_init, cL_cell, cL_at, cL_back, cL_covers, cL_splits, cL_signal, cL_law]
def p_b (mi : Nat) : ByteArray := p_bT.getD mi cX0_init
def p_nmT : List String := [RX0, RX1, RX2, RX3, RX4, RX5, RL]
def p_nm (o : Nat) : String := p_nmT.getD o ""
def p_obs : List ((Nat × Nat) ⊕ (Nat × List (Option Nat))) := [.inr (4, [some 1, some 2, some 4, some 3, some 5, some 6, some 7, some 19]), .inr (3, [some 18, none]), .inr (1, [some 8, none]), .inr (0, [some 9, some 10, some 20, some 21, some 22, none, none, none]), .inr (2, [some 11]), .inr (2, [some 12]), .inr (2, [some 13]), .inr (2, [some 14]), .inr (2, [some 15]), .inr (2, [some 16]), .inr (2, [some 17]), .inl (2, 32), .inl (2, 32), .inl (2, 32), .inl (2, 32), .inl (2, 32), .inl (2, 32), .inl (2, 32), .inl (3, 8), .inl (1, 8), .inl (0, 4038), .inl (0, 4038), .inl (0, 4038), .inl (1, 32), .inl (2, 16)]
-- object 0: x
-- object 1: tree
-- object 2: lifting
-- object 3: code
-- object 4: numbers
-- object 5: samples
-- object 6: told
-- object 7: brought
-- object 8: mixed
-- object 9: row
-- object 10: reach
-- object 11: a_numbers
-- object 12: a_samples
-- object 13: a_told
-- object 14: a_brought
-- object 15: a_mixed
-- object 16: a_row
-- object 17: a_reach
-- object 18: parents
-- object 19: costAsLeaf
-- object 20: bits
-- object 21: toldPlaces
-- object 22: toldPlanes
-- object 23: had
-- object 24: f
def p_fldT : List ((Nat × Nat) × (Nat × Nat)) := [((0, 14), (0, 0)), ((0, 18), (0, 1)), ((0, 21), (0, 2)), ((0, 25), (0, 3)), ((0, 28), (0, 4)), ((1, 12), (1, 0)), ((1, 18), (1, 1)), ((2, 9), (2, 0)), ((3, 9), (3, 0)), ((3, 15), (3, 1)), ((4, 10), (4, 0)), ((4, 19), (4, 1)), ((4, 26), (4, 2)), ((4, 33), (4, 3)), ((4, 37), (4, 4)), ((4, 40), (4, 5)), ((4, 43), (4, 6)), ((4, 46), (4, 7))]
def p_fld (o i : Nat) : Option (Nat × Nat) := p_fldT.lookup (o, i)
def p_invT : List ((Nat × Nat) × (Nat × Nat × Nat)) := [((1, 22), (1, 28, 2)), ((1, 26), (1, 24, 2)), ((1, 30), (1, 25, 3)), ((1, 34), (1, 19, 1)), ((1, 38), (1, 20, 6)), ((1, 42), (1, 21, 4)), ((1, 46), (1, 22, 4)), ((2, 15), (1, 24, 2)), ((2, 19), (0, 0, 0)), ((3, 19), (1, 36, 2)), ((3, 23), (1, 33, 2)), ((3, 27), (1, 32, 2)), ((3, 30), (1, 39, 2)), ((3, 34), (1, 37, 3)), ((3, 38), (1, 38, 2)), ((3, 41), (1, 40, 2)), ((4, 57), (1, 30, 1)), ((4, 61), (1, 31, 2)), ((4, 65), (1, 27, 1)), ((4, 68), (1, 75, 2)), ((4, 73), (1, 73, 1)), ((4, 76), (1, 24, 2)), ((4, 80), (1, 25, 3)), ((4, 84), (1, 87, 1)), ((4, 89), (1, 15, 1)), ((4, 92), (1, 16, 2)), ((4, 95), (1, 71, 2)), ((4, 98), (1, 34, 2)), ((4, 107), (1, 80, 2)), ((4, 110), (1, 39, 2)), ((4, 114), (1, 33, 2)), ((4, 119), (1, 81, 2)), ((4, 122), (1, 32, 2)), ((4, 125), (1, 42, 1)), ((4, 133), (1, 41, 2)), ((4, 136), (1, 85, 2)), ((4, 141), (1, 83, 2)), ((4, 144), (1, 84, 1)), ((4, 147), (1, 72, 2)), ((4, 150), (1, 76, 3)), ((4, 154), (1, 40, 2)), ((4, 179), (1, 26, 2)), ((4, 235), (1, 17, 4)), ((4, 239), (1, 35, 2)), ((4, 242), (1, 82, 3)), ((4, 246), (1, 36, 2)), ((4, 249), (1, 37, 3)), ((4, 253), (1, 18, 4)), ((4, 256), (1, 86, 1)), ((4, 260), (1, 28, 2)), ((6, 8), (1, 46, 2)), ((6, 14), (1, 53, 1)), ((6, 18), (1, 54, 2)), ((6, 22), (1, 52, 2)), ((6, 26), (1, 57, 2)), ((6, 29), (1, 55, 2)), ((6, 32), (1, 60, 3)), ((6, 36), (1, 49, 2)), ((6, 39), (1, 58, 3)), ((6, 42), (1, 95, 2)), ((6, 48), (1, 47, 1)), ((6, 51), (1, 44, 2)), ((6, 54), (1, 48, 2)), ((6, 58), (1, 45, 3)), ((6, 61), (1, 51, 2)), ((6, 64), (1, 98, 4)), ((6, 68), (1, 97, 2)), ((6, 72), (1, 96, 3)), ((6, 76), (1, 50, 2)), ((6, 79), (1, 56, 2)), ((6, 83), (1, 94, 2)), ((6, 87), (1, 99, 5))]
def p_inv (o i : Nat) : Option (Nat × Nat × Nat) := p_invT.lookup (o, i)
def p_cIT : List ((Nat × Nat) × Int32) := [((6, 7), 1372054441), ((6, 57), 2147483647)]
def p_cI (o i : Nat) : Option Int32 := p_cIT.lookup (o, i)
def p_cJT : List ((Nat × Nat) × Int64) := [((1, 49), -6497), ((1, 51), 3616), ((1, 53), 2048), ((1, 55), 2), ((1, 57), -217), ((1, 59), 1817), ((4, 163), 2)]
def p_cJ (o i : Nat) : Option Int64 := p_cJT.lookup (o, i)
def p_thrT : List ((Nat × Nat × Nat × Nat) × Nat) := [((4, 50, 52, 54), 0), ((4, 50, 71, 54), 0), ((4, 50, 87, 54), 0), ((4, 50, 139, 54), 0), ((4, 102, 104, 106), 1), ((4, 102, 117, 106), 1), ((4, 102, 161, 106), 1), ((4, 102, 217, 106), 1), ((4, 102, 219, 106), 1), ((4, 128, 130, 132), 2), ((4, 128, 215, 132), 2), ((4, 128, 227, 132), 2)]
def p_thr (o ik is ic : Nat) : Option Nat := p_thrT.lookup (o, ik, is, ic)
def p_hdT : List ((Nat × Nat × Nat) × (Nat × Nat × Int32)) := []
def p_hd (mi pc E : Nat) : Option (Nat × Nat × Int32) := p_hdT.lookup (mi, pc, E)
def p_lawI : Nat := 100
def p_lawG : Nat := 9999
abbrev p_M : Nat := 25
end
section
/-! WHAT THE TABLES SAY, beside the tables of the pure interpreter; written by wip/whole/gen/facts.py -/
def p_TT (c : Nat) : u_T := match c with
  | 0 => TX0
  | 1 => TX1
  | 2 => TX2
  | 3 => TX3
  | 4 => TX4
  | _ => TX5
def p_NN (c : Nat) : Nat := match c with
  | 0 => 8
  | 1 => 2
  | 2 => 1
  | 3 => 2
  | 4 => 8
  | _ => 0
def p_hb (w : Cond) : Bool := decide (w ∈ lw_tbl) && goodWord w
def p_big : List Cond := lw_tbl.filter goodWord
theorem p_hb_big {w : Cond} (h : p_hb w = true) : w ∈ p_big := by
  simp only [p_hb, Bool.and_eq_true, decide_eq_true_eq] at h
  exact List.mem_filter.mpr h
theorem p_lk {α β : Type} [BEq α] [LawfulBEq α] {a : α} {b : β} : ∀ {l : List (α × β)}, l.lookup a = some b → (a, b) ∈ l
  | [], h => by simp at h
  | (x, y) :: l, h => by
    rw [List.lookup_cons] at h
    split at h
    · next e => cases h; rw [eq_of_beq e]; exact List.mem_cons_self
    · exact List.mem_cons_of_mem _ (p_lk h)
/-- the word of a method's code -/
def p_cw (mi : Nat) : Cond := match p_hh mi with
  | [] => .code (p_y mi) (p_b mi) (p_ml mi) (p_rt mi)
  | h => .codeWith (p_y mi) (p_b mi) (p_ml mi) (p_rt mi) h
def p_ms : List Nat := [15, 16, 17, 18, 19, 20, 21, 22, 24, 25, 26, 27, 28, 30, 31, 32, 33, 34, 35, 36, 37, 38, 39, 40, 41, 42, 44, 45, 46, 47, 48, 49, 50, 51, 52, 53, 54, 55, 56, 57, 58, 60, 71, 72, 73, 75, 76, 80, 81, 82, 83, 84, 85, 86, 87, 94, 95, 96, 97, 98, 99]
theorem p_t1 {w : Cond} (h : w ∈ tables_1_1) : w ∈ lw_tbl := List.mem_append_right _ (List.mem_append_left _ h)
theorem p_t2 {w : Cond} (h : w ∈ tables_1_2) : w ∈ lw_tbl := List.mem_append_right _ (List.mem_append_right _ (List.mem_append_left _ h))
theorem p_t3 {w : Cond} (h : w ∈ tables_1_3) : w ∈ lw_tbl := List.mem_append_right _ (List.mem_append_right _ (List.mem_append_right _ (h)))
theorem p_cw15 : p_cw 15 ∈ lw_tbl ∧ goodWord (p_cw 15) = true := ⟨p_t2 (List.mem_of_getElem? (i := 19) rfl), rfl⟩
theorem p_cw16 : p_cw 16 ∈ lw_tbl ∧ goodWord (p_cw 16) = true := ⟨p_t2 (List.mem_of_getElem? (i := 23) rfl), rfl⟩
theorem p_cw17 : p_cw 17 ∈ lw_tbl ∧ goodWord (p_cw 17) = true := ⟨p_t2 (List.mem_of_getElem? (i := 124) rfl), rfl⟩
theorem p_cw18 : p_cw 18 ∈ lw_tbl ∧ goodWord (p_cw 18) = true := ⟨p_t2 (List.mem_of_getElem? (i := 221) rfl), rfl⟩
theorem p_cw19 : p_cw 19 ∈ lw_tbl ∧ goodWord (p_cw 19) = true := ⟨p_t2 (List.mem_of_getElem? (i := 135) rfl), rfl⟩
theorem p_cw20 : p_cw 20 ∈ lw_tbl ∧ goodWord (p_cw 20) = true := ⟨p_t2 (List.mem_of_getElem? (i := 139) rfl), rfl⟩
theorem p_cw21 : p_cw 21 ∈ lw_tbl ∧ goodWord (p_cw 21) = true := ⟨p_t2 (List.mem_of_getElem? (i := 143) rfl), rfl⟩
theorem p_cw22 : p_cw 22 ∈ lw_tbl ∧ goodWord (p_cw 22) = true := ⟨p_t2 (List.mem_of_getElem? (i := 150) rfl), rfl⟩
theorem p_cw24 : p_cw 24 ∈ lw_tbl ∧ goodWord (p_cw 24) = true := ⟨p_t2 (List.mem_of_getElem? (i := 57) rfl), rfl⟩
theorem p_cw25 : p_cw 25 ∈ lw_tbl ∧ goodWord (p_cw 25) = true := ⟨p_t2 (List.mem_of_getElem? (i := 61) rfl), rfl⟩
theorem p_cw26 : p_cw 26 ∈ lw_tbl ∧ goodWord (p_cw 26) = true := ⟨p_t2 (List.mem_of_getElem? (i := 194) rfl), rfl⟩
theorem p_cw27 : p_cw 27 ∈ lw_tbl ∧ goodWord (p_cw 27) = true := ⟨p_t1 (List.mem_of_getElem? (i := 226) rfl), rfl⟩
theorem p_cw28 : p_cw 28 ∈ lw_tbl ∧ goodWord (p_cw 28) = true := ⟨p_t2 (List.mem_of_getElem? (i := 128) rfl), rfl⟩
theorem p_cw30 : p_cw 30 ∈ lw_tbl ∧ goodWord (p_cw 30) = true := ⟨p_t1 (List.mem_of_getElem? (i := 135) rfl), rfl⟩
theorem p_cw31 : p_cw 31 ∈ lw_tbl ∧ goodWord (p_cw 31) = true := ⟨p_t1 (List.mem_of_getElem? (i := 210) rfl), rfl⟩
theorem p_cw32 : p_cw 32 ∈ lw_tbl ∧ goodWord (p_cw 32) = true := ⟨p_t2 (List.mem_of_getElem? (i := 69) rfl), rfl⟩
theorem p_cw33 : p_cw 33 ∈ lw_tbl ∧ goodWord (p_cw 33) = true := ⟨p_t1 (List.mem_of_getElem? (i := 239) rfl), rfl⟩
theorem p_cw34 : p_cw 34 ∈ lw_tbl ∧ goodWord (p_cw 34) = true := ⟨p_t2 (List.mem_of_getElem? (i := 114) rfl), rfl⟩
theorem p_cw35 : p_cw 35 ∈ lw_tbl ∧ goodWord (p_cw 35) = true := ⟨p_t2 (List.mem_of_getElem? (i := 157) rfl), rfl⟩
theorem p_cw36 : p_cw 36 ∈ lw_tbl ∧ goodWord (p_cw 36) = true := ⟨p_t1 (List.mem_of_getElem? (i := 214) rfl), rfl⟩
theorem p_cw37 : p_cw 37 ∈ lw_tbl ∧ goodWord (p_cw 37) = true := ⟨p_t1 (List.mem_of_getElem? (i := 218) rfl), rfl⟩
theorem p_cw38 : p_cw 38 ∈ lw_tbl ∧ goodWord (p_cw 38) = true := ⟨p_t1 (List.mem_of_getElem? (i := 222) rfl), rfl⟩
theorem p_cw39 : p_cw 39 ∈ lw_tbl ∧ goodWord (p_cw 39) = true := ⟨p_t2 (List.mem_of_getElem? (i := 92) rfl), rfl⟩
theorem p_cw40 : p_cw 40 ∈ lw_tbl ∧ goodWord (p_cw 40) = true := ⟨p_t2 (List.mem_of_getElem? (i := 104) rfl), rfl⟩
theorem p_cw41 : p_cw 41 ∈ lw_tbl ∧ goodWord (p_cw 41) = true := ⟨p_t2 (List.mem_of_getElem? (i := 181) rfl), rfl⟩
theorem p_cw42 : p_cw 42 ∈ lw_tbl ∧ goodWord (p_cw 42) = true := ⟨p_t2 (List.mem_of_getElem? (i := 172) rfl), rfl⟩
theorem p_cw44 : p_cw 44 ∈ lw_tbl ∧ goodWord (p_cw 44) = true := ⟨p_t1 (List.mem_of_getElem? (i := 139) rfl), rfl⟩
theorem p_cw45 : p_cw 45 ∈ lw_tbl ∧ goodWord (p_cw 45) = true := ⟨p_t2 (List.mem_of_getElem? (i := 28) rfl), rfl⟩
theorem p_cw46 : p_cw 46 ∈ lw_tbl ∧ goodWord (p_cw 46) = true := ⟨p_t2 (List.mem_of_getElem? (i := 207) rfl), rfl⟩
theorem p_cw47 : p_cw 47 ∈ lw_tbl ∧ goodWord (p_cw 47) = true := ⟨p_t1 (List.mem_of_getElem? (i := 131) rfl), rfl⟩
theorem p_cw48 : p_cw 48 ∈ lw_tbl ∧ goodWord (p_cw 48) = true := ⟨p_t1 (List.mem_of_getElem? (i := 230) rfl), rfl⟩
theorem p_cw49 : p_cw 49 ∈ lw_tbl ∧ goodWord (p_cw 49) = true := ⟨p_t2 (List.mem_of_getElem? (i := 110) rfl), rfl⟩
theorem p_cw50 : p_cw 50 ∈ lw_tbl ∧ goodWord (p_cw 50) = true := ⟨p_t2 (List.mem_of_getElem? (i := 225) rfl), rfl⟩
theorem p_cw51 : p_cw 51 ∈ lw_tbl ∧ goodWord (p_cw 51) = true := ⟨p_t2 (List.mem_of_getElem? (i := 65) rfl), rfl⟩
theorem p_cw52 : p_cw 52 ∈ lw_tbl ∧ goodWord (p_cw 52) = true := ⟨p_t2 (List.mem_of_getElem? (i := 74) rfl), rfl⟩
theorem p_cw53 : p_cw 53 ∈ lw_tbl ∧ goodWord (p_cw 53) = true := ⟨p_t2 (List.mem_of_getElem? (i := 168) rfl), rfl⟩
theorem p_cw54 : p_cw 54 ∈ lw_tbl ∧ goodWord (p_cw 54) = true := ⟨p_t2 (List.mem_of_getElem? (i := 176) rfl), rfl⟩
theorem p_cw55 : p_cw 55 ∈ lw_tbl ∧ goodWord (p_cw 55) = true := ⟨p_t2 (List.mem_of_getElem? (i := 186) rfl), rfl⟩
theorem p_cw56 : p_cw 56 ∈ lw_tbl ∧ goodWord (p_cw 56) = true := ⟨p_t2 (List.mem_of_getElem? (i := 235) rfl), rfl⟩
theorem p_cw57 : p_cw 57 ∈ lw_tbl ∧ goodWord (p_cw 57) = true := ⟨p_t2 (List.mem_of_getElem? (i := 83) rfl), rfl⟩
theorem p_cw58 : p_cw 58 ∈ lw_tbl ∧ goodWord (p_cw 58) = true := ⟨p_t2 (List.mem_of_getElem? (i := 161) rfl), rfl⟩
theorem p_cw60 : p_cw 60 ∈ lw_tbl ∧ goodWord (p_cw 60) = true := ⟨p_t2 (List.mem_of_getElem? (i := 99) rfl), rfl⟩
theorem p_cw71 : p_cw 71 ∈ lw_tbl ∧ goodWord (p_cw 71) = true := ⟨p_t2 (List.mem_of_getElem? (i := 78) rfl), rfl⟩
theorem p_cw72 : p_cw 72 ∈ lw_tbl ∧ goodWord (p_cw 72) = true := ⟨p_t2 (List.mem_of_getElem? (i := 87) rfl), rfl⟩
theorem p_cw73 : p_cw 73 ∈ lw_tbl ∧ goodWord (p_cw 73) = true := ⟨p_t1 (List.mem_of_getElem? (i := 235) rfl), rfl⟩
theorem p_cw75 : p_cw 75 ∈ lw_tbl ∧ goodWord (p_cw 75) = true := ⟨p_t2 (List.mem_of_getElem? (i := 32) rfl), rfl⟩
theorem p_cw76 : p_cw 76 ∈ lw_tbl ∧ goodWord (p_cw 76) = true := ⟨p_t2 (List.mem_of_getElem? (i := 36) rfl), rfl⟩
theorem p_cw80 : p_cw 80 ∈ lw_tbl ∧ goodWord (p_cw 80) = true := ⟨p_t2 (List.mem_of_getElem? (i := 120) rfl), rfl⟩
theorem p_cw81 : p_cw 81 ∈ lw_tbl ∧ goodWord (p_cw 81) = true := ⟨p_t2 (List.mem_of_getElem? (i := 230) rfl), rfl⟩
theorem p_cw82 : p_cw 82 ∈ lw_tbl ∧ goodWord (p_cw 82) = true := ⟨p_t2 (List.mem_of_getElem? (i := 216) rfl), rfl⟩
theorem p_cw83 : p_cw 83 ∈ lw_tbl ∧ goodWord (p_cw 83) = true := ⟨p_t3 (List.mem_of_getElem? (i := 0) rfl), rfl⟩
theorem p_cw84 : p_cw 84 ∈ lw_tbl ∧ goodWord (p_cw 84) = true := ⟨p_t3 (List.mem_of_getElem? (i := 4) rfl), rfl⟩
theorem p_cw85 : p_cw 85 ∈ lw_tbl ∧ goodWord (p_cw 85) = true := ⟨p_t2 (List.mem_of_getElem? (i := 190) rfl), rfl⟩
theorem p_cw86 : p_cw 86 ∈ lw_tbl ∧ goodWord (p_cw 86) = true := ⟨p_t2 (List.mem_of_getElem? (i := 200) rfl), rfl⟩
theorem p_cw87 : p_cw 87 ∈ lw_tbl ∧ goodWord (p_cw 87) = true := ⟨p_t2 (List.mem_of_getElem? (i := 211) rfl), rfl⟩
theorem p_cw94 : p_cw 94 ∈ lw_tbl ∧ goodWord (p_cw 94) = true := ⟨p_t1 (List.mem_of_getElem? (i := 120) rfl), rfl⟩
theorem p_cw95 : p_cw 95 ∈ lw_tbl ∧ goodWord (p_cw 95) = true := ⟨p_t1 (List.mem_of_getElem? (i := 127) rfl), rfl⟩
theorem p_cw96 : p_cw 96 ∈ lw_tbl ∧ goodWord (p_cw 96) = true := ⟨p_t2 (List.mem_of_getElem? (i := 203) rfl), rfl⟩
theorem p_cw97 : p_cw 97 ∈ lw_tbl ∧ goodWord (p_cw 97) = true := ⟨p_t2 (List.mem_of_getElem? (i := 164) rfl), rfl⟩
theorem p_cw98 : p_cw 98 ∈ lw_tbl ∧ goodWord (p_cw 98) = true := ⟨p_t2 (List.mem_of_getElem? (i := 95) rfl), rfl⟩
theorem p_cw99 : p_cw 99 ∈ lw_tbl ∧ goodWord (p_cw 99) = true := ⟨p_t1 (List.mem_of_getElem? (i := 124) rfl), rfl⟩
theorem p_cwc0 : ∀ m ∈ ([15, 16, 17, 18, 19, 20, 21, 22, 24, 25, 26, 27, 28, 30, 31, 32] : List Nat), p_cw m ∈ lw_tbl ∧ goodWord (p_cw m) = true := List.forall_mem_cons.mpr ⟨p_cw15, List.forall_mem_cons.mpr ⟨p_cw16, List.forall_mem_cons.mpr ⟨p_cw17, List.forall_mem_cons.mpr ⟨p_cw18, List.forall_mem_cons.mpr ⟨p_cw19, List.forall_mem_cons.mpr ⟨p_cw20, List.forall_mem_cons.mpr ⟨p_cw21, List.forall_mem_cons.mpr ⟨p_cw22, List.forall_mem_cons.mpr ⟨p_cw24, List.forall_mem_cons.mpr ⟨p_cw25, List.forall_mem_cons.mpr ⟨p_cw26, List.forall_mem_cons.mpr ⟨p_cw27, List.forall_mem_cons.mpr ⟨p_cw28, List.forall_mem_cons.mpr ⟨p_cw30, List.forall_mem_cons.mpr ⟨p_cw31, List.forall_mem_cons.mpr ⟨p_cw32, fun _ h => absurd h List.not_mem_nil⟩⟩⟩⟩⟩⟩⟩⟩⟩⟩⟩⟩⟩⟩⟩⟩
theorem p_cwc1 : ∀ m ∈ ([33, 34, 35, 36, 37, 38, 39, 40, 41, 42, 44, 45, 46, 47, 48, 49] : List Nat), p_cw m ∈ lw_tbl ∧ goodWord (p_cw m) = true := List.forall_mem_cons.mpr ⟨p_cw33, List.forall_mem_cons.mpr ⟨p_cw34, List.forall_mem_cons.mpr ⟨p_cw35, List.forall_mem_cons.mpr ⟨p_cw36, List.forall_mem_cons.mpr ⟨p_cw37, List.forall_mem_cons.mpr ⟨p_cw38, List.forall_mem_cons.mpr ⟨p_cw39, List.forall_mem_cons.mpr ⟨p_cw40, List.forall_mem_cons.mpr ⟨p_cw41, List.forall_mem_cons.mpr ⟨p_cw42, List.forall_mem_cons.mpr ⟨p_cw44, List.forall_mem_cons.mpr ⟨p_cw45, List.forall_mem_cons.mpr ⟨p_cw46, List.forall_mem_cons.mpr ⟨p_cw47, List.forall_mem_cons.mpr ⟨p_cw48, List.forall_mem_cons.mpr ⟨p_cw49, fun _ h => absurd h List.not_mem_nil⟩⟩⟩⟩⟩⟩⟩⟩⟩⟩⟩⟩⟩⟩⟩⟩
theorem p_cwc2 : ∀ m ∈ ([50, 51, 52, 53, 54, 55, 56, 57, 58, 60, 71, 72, 73, 75, 76, 80] : List Nat), p_cw m ∈ lw_tbl ∧ goodWord (p_cw m) = true := List.forall_mem_cons.mpr ⟨p_cw50, List.forall_mem_cons.mpr ⟨p_cw51, List.forall_mem_cons.mpr ⟨p_cw52, List.forall_mem_cons.mpr ⟨p_cw53, List.forall_mem_cons.mpr ⟨p_cw54, List.forall_mem_cons.mpr ⟨p_cw55, List.forall_mem_cons.mpr ⟨p_cw56, List.forall_mem_cons.mpr ⟨p_cw57, List.forall_mem_cons.mpr ⟨p_cw58, List.forall_mem_cons.mpr ⟨p_cw60, List.forall_mem_cons.mpr ⟨p_cw71, List.forall_mem_cons.mpr ⟨p_cw72, List.forall_mem_cons.mpr ⟨p_cw73, List.forall_mem_cons.mpr ⟨p_cw75, List.forall_mem_cons.mpr ⟨p_cw76, List.forall_mem_cons.mpr ⟨p_cw80, fun _ h => absurd h List.not_mem_nil⟩⟩⟩⟩⟩⟩⟩⟩⟩⟩⟩⟩⟩⟩⟩⟩
theorem p_cwc3 : ∀ m ∈ ([81, 82, 83, 84, 85, 86, 87, 94, 95, 96, 97, 98, 99] : List Nat), p_cw m ∈ lw_tbl ∧ goodWord (p_cw m) = true := List.forall_mem_cons.mpr ⟨p_cw81, List.forall_mem_cons.mpr ⟨p_cw82, List.forall_mem_cons.mpr ⟨p_cw83, List.forall_mem_cons.mpr ⟨p_cw84, List.forall_mem_cons.mpr ⟨p_cw85, List.forall_mem_cons.mpr ⟨p_cw86, List.forall_mem_cons.mpr ⟨p_cw87, List.forall_mem_cons.mpr ⟨p_cw94, List.forall_mem_cons.mpr ⟨p_cw95, List.forall_mem_cons.mpr ⟨p_cw96, List.forall_mem_cons.mpr ⟨p_cw97, List.forall_mem_cons.mpr ⟨p_cw98, List.forall_mem_cons.mpr ⟨p_cw99, fun _ h => absurd h List.not_mem_nil⟩⟩⟩⟩⟩⟩⟩⟩⟩⟩⟩⟩⟩
theorem p_cw_ok : ∀ m ∈ p_ms, p_cw m ∈ lw_tbl ∧ goodWord (p_cw m) = true := by
  show ∀ m ∈ ([15, 16, 17, 18, 19, 20, 21, 22, 24, 25, 26, 27, 28, 30, 31, 32] : List Nat) ++ (([33, 34, 35, 36, 37, 38, 39, 40, 41, 42, 44, 45, 46, 47, 48, 49] : List Nat) ++ (([50, 51, 52, 53, 54, 55, 56, 57, 58, 60, 71, 72, 73, 75, 76, 80] : List Nat) ++ (([81, 82, 83, 84, 85, 86, 87, 94, 95, 96, 97, 98, 99] : List Nat)))), _
  exact List.forall_mem_append.mpr ⟨p_cwc0, List.forall_mem_append.mpr ⟨p_cwc1, List.forall_mem_append.mpr ⟨p_cwc2, p_cwc3⟩⟩⟩
theorem p_k1 : p_fldT.all (fun q => p_hb (.fieldLink (p_nm q.1.1) q.1.2 (p_TT q.2.1 q.2.2).1 (p_TT q.2.1 q.2.2).2.1 (p_TT q.2.1 q.2.2).2.2.1) && decide (q.2.2 < p_NN q.2.1) && decide (q.2.1 < 5)) = true := by decide +kernel
theorem p_k2 : (List.range 5).all (fun c => ((List.range (p_NN c)).map (u_lay (p_nm c) (p_TT c))).all p_hb) = true := by decide +kernel
theorem p_k3 : p_cIT.all (fun q => p_hb (.constant (p_nm q.1.1) q.1.2 q.2)) = true := by decide +kernel
theorem p_k4 : p_cJT.all (fun q => p_hb (.constantLong (p_nm q.1.1) q.1.2 q.2)) = true := by decide +kernel
def p_nst : Cond := .methodLinkNest "LiftingWorkshop" 9 yX3_init "LiftingWorkshop"
/-- the j-th list of words: 0 is the private methods, 1.. the tables -/
def p_sub (j : Nat) : List Cond := match j with
  | 0 => k2_sels lw_privs
  | 1 => tables_1_1
  | 2 => tables_1_2
  | _ => tables_1_3
def p_hbi (q : Nat × Nat) (w : Cond) : Bool := decide ((p_sub q.1)[q.2]? = some w) && goodWord w
theorem p_hbi_big {q : Nat × Nat} {w : Cond} (h : p_hbi q w = true) : w ∈ p_big := by
  simp only [p_hbi, Bool.and_eq_true, decide_eq_true_eq] at h
  have h1 := List.mem_of_getElem? h.1
  refine List.mem_filter.mpr ⟨?_, h.2⟩
  revert h1
  unfold p_sub
  split <;> intro h1
  · exact List.mem_append_left _ h1
  · exact p_t1 h1
  · exact p_t2 h1
  · exact p_t3 h1

def p_ivi : List (Nat × Nat) := [(2, 125), (2, 130), (2, 131), (2, 132), (2, 136), (2, 140), (2, 147), (2, 129), (2, 195), (1, 211), (2, 70), (2, 115), (2, 105), (1, 215), (1, 219), (2, 182), (1, 132), (1, 207), (1, 223), (2, 29), (1, 232), (2, 54), (2, 58), (2, 208), (2, 16), (2, 20), (2, 75), (2, 111), (2, 117), (2, 89), (1, 236), (2, 227), (2, 66), (2, 169), (2, 178), (2, 187), (2, 237), (3, 1), (2, 84), (2, 33), (2, 101), (2, 191), (2, 121), (2, 154), (2, 213), (2, 231), (2, 217), (2, 218), (2, 198), (2, 212), (2, 204), (2, 165), (2, 173), (2, 71), (2, 80), (2, 183), (2, 96), (2, 107), (2, 158), (1, 125), (1, 128), (1, 136), (1, 227), (2, 25), (2, 62), (2, 93), (2, 162), (2, 201), (2, 222), (2, 232), (1, 118), (1, 122)]
def p_k5b (x : Nat × Nat) (q : (Nat × Nat) × (Nat × Nat × Nat)) : Bool := if q.2.1 = 0 then (match q.2.2.1 with
  | 0 => p_hbi x (.methodLink (p_nm q.1.1) q.1.2 Lib.MathLoose.abs_long.x)
  | _ => false) else decide (q.2.2.1 ∈ p_ms) && p_hbi x (.methodLink (p_nm q.1.1) q.1.2 (p_y q.2.2.1)) && decide ((parseMethodDescriptor (p_y q.2.2.1).desc).map (fun d => d.parameters.length + (if p_virt q.2.2.1 = true then 1 else 0)) = some q.2.2.2)
theorem p_k5 : (p_ivi.zip p_invT).all (fun z => p_k5b z.1 z.2) = true := by decide +kernel
theorem p_k5l : p_invT.length ≤ p_ivi.length := by decide +kernel
def p_k6b (x : (Nat × Nat) × (Nat × Nat) × (Nat × Nat)) (m : Nat) : Bool := p_hbi x.1 (.initialized (p_y m).cls) && (if p_virt m = true then p_hbi x.2.1 (.instanceMethod (p_y m)) && p_hbi x.2.2 (.selects (p_y m).cls (p_y m) (p_y m)) else p_hbi x.2.1 (.static (p_y m))) && decide ((p_y m).cls ≠ "java/lang/invoke/MethodHandle" ∧ (p_y m).cls ≠ "java/lang/invoke/VarHandle") && plainName (p_y m).cls && decide ((p_y m).cls = p_nm (p_own m)) && decide (p_own m < 7)
def p_msi : List ((Nat × Nat) × (Nat × Nat) × (Nat × Nat)) := [((1, 3), (2, 17), (2, 18)), ((1, 3), (2, 21), (2, 22)), ((1, 3), (2, 122), (2, 123)), ((1, 3), (2, 219), (2, 220)), ((1, 3), (2, 134), (0, 7)), ((1, 3), (2, 138), (0, 8)), ((1, 3), (2, 142), (0, 9)), ((1, 3), (2, 149), (0, 10)), ((1, 4), (2, 55), (2, 56)), ((1, 4), (2, 59), (2, 60)), ((1, 4), (2, 192), (2, 193)), ((1, 4), (1, 224), (1, 225)), ((1, 4), (2, 126), (2, 127)), ((1, 2), (1, 133), (1, 134)), ((1, 2), (1, 208), (1, 209)), ((1, 2), (2, 67), (2, 68)), ((1, 2), (1, 237), (1, 238)), ((1, 2), (2, 112), (2, 113)), ((1, 2), (2, 155), (2, 156)), ((1, 2), (1, 212), (1, 213)), ((1, 2), (1, 216), (1, 217)), ((1, 2), (1, 220), (1, 221)), ((1, 2), (2, 90), (2, 91)), ((1, 2), (2, 102), (2, 103)), ((1, 2), (2, 179), (2, 180)), ((1, 2), (2, 170), (2, 171)), ((1, 1), (1, 137), (1, 138)), ((1, 1), (2, 26), (2, 27)), ((1, 1), (2, 205), (2, 206)), ((1, 1), (1, 129), (1, 130)), ((1, 1), (1, 228), (1, 229)), ((1, 1), (2, 108), (2, 109)), ((1, 1), (2, 223), (2, 224)), ((1, 1), (2, 63), (2, 64)), ((1, 1), (2, 72), (2, 73)), ((1, 1), (2, 166), (2, 167)), ((1, 1), (2, 174), (2, 175)), ((1, 1), (2, 184), (2, 185)), ((1, 1), (2, 233), (2, 234)), ((1, 1), (2, 81), (2, 82)), ((1, 1), (2, 159), (2, 160)), ((1, 1), (2, 97), (2, 98)), ((1, 1), (2, 77), (0, 4)), ((1, 1), (2, 86), (0, 5)), ((1, 1), (1, 234), (0, 1)), ((1, 1), (2, 31), (0, 2)), ((1, 1), (2, 35), (0, 3)), ((1, 1), (2, 119), (0, 6)), ((1, 1), (2, 229), (0, 14)), ((1, 1), (2, 215), (0, 13)), ((1, 1), (2, 239), (0, 15)), ((1, 1), (3, 3), (0, 16)), ((1, 1), (2, 189), (0, 11)), ((1, 1), (2, 199), (0, 0)), ((1, 1), (2, 210), (0, 12)), ((1, 0), (1, 119), (0, 0)), ((1, 0), (1, 126), (0, 0)), ((1, 0), (2, 202), (0, 0)), ((1, 0), (2, 163), (0, 0)), ((1, 0), (2, 94), (0, 0)), ((1, 0), (1, 123), (0, 0))]
theorem p_k6 : (p_msi.zip p_ms).all (fun z => p_k6b z.1 z.2) = true := by decide +kernel
theorem p_k6l : p_ms.length ≤ p_msi.length := by decide +kernel
theorem p_k7 : p_hb (.static Lib.MathLoose.abs_long.x) = true ∧ p_hb (.initialized "java/lang/Math") = true := by decide +kernel
theorem p_k8_abs_long : Cond.code Lib.MathLoose.abs_long.x Lib.MathLoose.abs_long.code 2 (some .long) ∈ p_big := List.mem_filter.mpr ⟨p_t2 (List.mem_of_getElem? (i := 197) rfl), rfl⟩
end
section
def p_ln (i : Instr) : Nat := match i with
  | .iload _ | .lload _ | .aload _ | .istore _ | .lstore _ | .astore _ | .bipush _ | .ldc _ | .newarray _ => 2
  | .sipush _ | .ldc2_w _ | .iinc _ _ | .goto _ | .if_icmp _ _ | .ifCond _ _ | .getfield _ | .putfield _ | .invokevirtual _ | .invokespecial _ | .invokestatic _ | .new _ => 3
  | .tableswitch _ _ _ _ => 121
  | _ => 1
theorem p_d0 : ∀ q ∈ p_c0, decode cX0_init q.1 = .ok (q.2, p_ln q.2) := by decide +kernel
theorem p_d1 : ∀ q ∈ p_c1, decode cX0_init q.1 = .ok (q.2, p_ln q.2) := by decide +kernel
theorem p_d2 : ∀ q ∈ p_c2, decode cX0_init q.1 = .ok (q.2, p_ln q.2) := by decide +kernel
theorem p_d3 : ∀ q ∈ p_c3, decode cX0_init q.1 = .ok (q.2, p_ln q.2) := by decide +kernel
theorem p_d4 : ∀ q ∈ p_c4, decode cX0_init q.1 = .ok (q.2, p_ln q.2) := by decide +kernel
theorem p_d5 : ∀ q ∈ p_c5, decode cX0_init q.1 = .ok (q.2, p_ln q.2) := by decide +kernel
theorem p_d6 : ∀ q ∈ p_c6, decode cX0_init q.1 = .ok (q.2, p_ln q.2) := by decide +kernel
theorem p_d7 : ∀ q ∈ p_c7, decode cX0_init q.1 = .ok (q.2, p_ln q.2) := by decide +kernel
theorem p_d8 : ∀ q ∈ p_c8, decode cX0_init q.1 = .ok (q.2, p_ln q.2) := by decide +kernel
theorem p_d9 : ∀ q ∈ p_c9, decode cX0_init q.1 = .ok (q.2, p_ln q.2) := by decide +kernel
theorem p_d10 : ∀ q ∈ p_c10, decode cX0_init q.1 = .ok (q.2, p_ln q.2) := by decide +kernel
theorem p_d11 : ∀ q ∈ p_c11, decode cX0_init q.1 = .ok (q.2, p_ln q.2) := by decide +kernel
theorem p_d12 : ∀ q ∈ p_c12, decode cX0_init q.1 = .ok (q.2, p_ln q.2) := by decide +kernel
theorem p_d13 : ∀ q ∈ p_c13, decode cX0_init q.1 = .ok (q.2, p_ln q.2) := by decide +kernel
theorem p_d14 : ∀ q ∈ p_c14, decode cX1_init q.1 = .ok (q.2, p_ln q.2) := by decide +kernel
theorem p_d15 : ∀ q ∈ p_c15, decode cX1_wavelet q.1 = .ok (q.2, p_ln q.2) := by decide +kernel
theorem p_d16 : ∀ q ∈ p_c16, decode cX1_use q.1 = .ok (q.2, p_ln q.2) := by decide +kernel
theorem p_d17 : ∀ q ∈ p_c17, decode cX1_divide q.1 = .ok (q.2, p_ln q.2) := by decide +kernel
theorem p_d18 : ∀ q ∈ p_c18, decode cX1_unite q.1 = .ok (q.2, p_ln q.2) := by decide +kernel
theorem p_d19 : ∀ q ∈ p_c19, decode cX1_steps q.1 = .ok (q.2, p_ln q.2) := by decide +kernel
theorem p_d20 : ∀ q ∈ p_c20, decode cX1_lift q.1 = .ok (q.2, p_ln q.2) := by decide +kernel
theorem p_d21 : ∀ q ∈ p_c21, decode cX1_oddChange q.1 = .ok (q.2, p_ln q.2) := by decide +kernel
theorem p_d22 : ∀ q ∈ p_c22, decode cX1_evenChange q.1 = .ok (q.2, p_ln q.2) := by decide +kernel
theorem p_d23 : ∀ q ∈ p_c23, decode cX2_init q.1 = .ok (q.2, p_ln q.2) := by decide +kernel
theorem p_d24 : ∀ q ∈ p_c24, decode cX2_get q.1 = .ok (q.2, p_ln q.2) := by decide +kernel
theorem p_d25 : ∀ q ∈ p_c25, decode cX2_set q.1 = .ok (q.2, p_ln q.2) := by decide +kernel
theorem p_d26 : ∀ q ∈ p_c26, decode cX2_magnitude q.1 = .ok (q.2, p_ln q.2) := by decide +kernel
theorem p_d27 : ∀ q ∈ p_c27, decode cX2_clear q.1 = .ok (q.2, p_ln q.2) := by decide +kernel
theorem p_d28 : ∀ q ∈ p_c28, decode cX2_copy q.1 = .ok (q.2, p_ln q.2) := by decide +kernel
theorem p_d29 : ∀ q ∈ p_c29, decode cX3_init q.1 = .ok (q.2, p_ln q.2) := by decide +kernel
theorem p_d30 : ∀ q ∈ p_c30, decode cX3_width q.1 = .ok (q.2, p_ln q.2) := by decide +kernel
theorem p_d31 : ∀ q ∈ p_c31, decode cX3_plant q.1 = .ok (q.2, p_ln q.2) := by decide +kernel
theorem p_d32 : ∀ q ∈ p_c32, decode cX3_exists q.1 = .ok (q.2, p_ln q.2) := by decide +kernel
theorem p_d33 : ∀ q ∈ p_c33, decode cX3_hasChildren q.1 = .ok (q.2, p_ln q.2) := by decide +kernel
theorem p_d34 : ∀ q ∈ p_c34, decode cX3_canBeSplit q.1 = .ok (q.2, p_ln q.2) := by decide +kernel
theorem p_d35 : ∀ q ∈ p_c35, decode cX3_giveChildren q.1 = .ok (q.2, p_ln q.2) := by decide +kernel
theorem p_d36 : ∀ q ∈ p_c36, decode cX3_takeChildren q.1 = .ok (q.2, p_ln q.2) := by decide +kernel
theorem p_d37 : ∀ q ∈ p_c37, decode cX3_isWithin q.1 = .ok (q.2, p_ln q.2) := by decide +kernel
theorem p_d38 : ∀ q ∈ p_c38, decode cX3_levelOf q.1 = .ok (q.2, p_ln q.2) := by decide +kernel
theorem p_d39 : ∀ q ∈ p_c39, decode cX3_widthOf q.1 = .ok (q.2, p_ln q.2) := by decide +kernel
theorem p_d40 : ∀ q ∈ p_c40, decode cX3_startOf q.1 = .ok (q.2, p_ln q.2) := by decide +kernel
theorem p_d41 : ∀ q ∈ p_c41, decode cX3_leafOver q.1 = .ok (q.2, p_ln q.2) := by decide +kernel
theorem p_d42 : ∀ q ∈ p_c42, decode cX3_leafCount q.1 = .ok (q.2, p_ln q.2) := by decide +kernel
theorem p_d43 : ∀ q ∈ p_c43, decode cX4_init q.1 = .ok (q.2, p_ln q.2) := by decide +kernel
theorem p_d44 : ∀ q ∈ p_c44, decode cX4_begin q.1 = .ok (q.2, p_ln q.2) := by decide +kernel
theorem p_d45 : ∀ q ∈ p_c45, decode cX4_setSample q.1 = .ok (q.2, p_ln q.2) := by decide +kernel
theorem p_d46 : ∀ q ∈ p_c46, decode cX4_sample q.1 = .ok (q.2, p_ln q.2) := by decide +kernel
theorem p_d47 : ∀ q ∈ p_c47, decode cX4_length q.1 = .ok (q.2, p_ln q.2) := by decide +kernel
theorem p_d48 : ∀ q ∈ p_c48, decode cX4_setWavelet q.1 = .ok (q.2, p_ln q.2) := by decide +kernel
theorem p_d49 : ∀ q ∈ p_c49, decode cX4_split q.1 = .ok (q.2, p_ln q.2) := by decide +kernel
theorem p_d50 : ∀ q ∈ p_c50, decode cX4_join q.1 = .ok (q.2, p_ln q.2) := by decide +kernel
theorem p_d51 : ∀ q ∈ p_c51, decode cX4_isNode q.1 = .ok (q.2, p_ln q.2) := by decide +kernel
theorem p_d52 : ∀ q ∈ p_c52, decode cX4_isLeaf q.1 = .ok (q.2, p_ln q.2) := by decide +kernel
theorem p_d53 : ∀ q ∈ p_c53, decode cX4_leaves q.1 = .ok (q.2, p_ln q.2) := by decide +kernel
theorem p_d54 : ∀ q ∈ p_c54, decode cX4_leafAt q.1 = .ok (q.2, p_ln q.2) := by decide +kernel
theorem p_d55 : ∀ q ∈ p_c55, decode cX4_costOf q.1 = .ok (q.2, p_ln q.2) := by decide +kernel
theorem p_d56 : ∀ q ∈ p_c56, decode cX4_chooseBasis q.1 = .ok (q.2, p_ln q.2) := by decide +kernel
theorem p_d57 : ∀ q ∈ p_c57, decode cX4_sizeOf q.1 = .ok (q.2, p_ln q.2) := by decide +kernel
theorem p_d58 : ∀ q ∈ p_c58, decode cX4_number q.1 = .ok (q.2, p_ln q.2) := by decide +kernel
theorem p_d59 : ∀ q ∈ p_c59, decode cX0_init q.1 = .ok (q.2, p_ln q.2) := by decide +kernel
theorem p_d60 : ∀ q ∈ p_c60, decode cX4_filtered q.1 = .ok (q.2, p_ln q.2) := by decide +kernel
theorem p_d61 : ∀ q ∈ p_c61, decode cX0_init q.1 = .ok (q.2, p_ln q.2) := by decide +kernel
theorem p_d62 : ∀ q ∈ p_c62, decode cX0_init q.1 = .ok (q.2, p_ln q.2) := by decide +kernel
theorem p_d63 : ∀ q ∈ p_c63, decode cX0_init q.1 = .ok (q.2, p_ln q.2) := by decide +kernel
theorem p_d64 : ∀ q ∈ p_c64, decode cX0_init q.1 = .ok (q.2, p_ln q.2) := by decide +kernel
theorem p_d65 : ∀ q ∈ p_c65, decode cX0_init q.1 = .ok (q.2, p_ln q.2) := by decide +kernel
theorem p_d66 : ∀ q ∈ p_c66, decode cX0_init q.1 = .ok (q.2, p_ln q.2) := by decide +kernel
theorem p_d67 : ∀ q ∈ p_c67, decode cX0_init q.1 = .ok (q.2, p_ln q.2) := by decide +kernel
theorem p_d68 : ∀ q ∈ p_c68, decode cX0_init q.1 = .ok (q.2, p_ln q.2) := by decide +kernel
theorem p_d69 : ∀ q ∈ p_c69, decode cX0_init q.1 = .ok (q.2, p_ln q.2) := by decide +kernel
theorem p_d70 : ∀ q ∈ p_c70, decode cX0_init q.1 = .ok (q.2, p_ln q.2) := by decide +kernel
theorem p_d71 : ∀ q ∈ p_c71, decode cX4_requireNode q.1 = .ok (q.2, p_ln q.2) := by decide +kernel
theorem p_d72 : ∀ q ∈ p_c72, decode cX4_requireLeaf q.1 = .ok (q.2, p_ln q.2) := by decide +kernel
theorem p_d73 : ∀ q ∈ p_c73, decode cX4_requireUnsplitRoot q.1 = .ok (q.2, p_ln q.2) := by decide +kernel
theorem p_d74 : ∀ q ∈ p_c74, decode cX0_init q.1 = .ok (q.2, p_ln q.2) := by decide +kernel
theorem p_d75 : ∀ q ∈ p_c75, decode cX4_requirePlaceInSignal q.1 = .ok (q.2, p_ln q.2) := by decide +kernel
theorem p_d76 : ∀ q ∈ p_c76, decode cX4_requirePlaceBelow q.1 = .ok (q.2, p_ln q.2) := by decide +kernel
theorem p_d77 : ∀ q ∈ p_c77, decode cX0_init q.1 = .ok (q.2, p_ln q.2) := by decide +kernel
theorem p_d78 : ∀ q ∈ p_c78, decode cX0_init q.1 = .ok (q.2, p_ln q.2) := by decide +kernel
theorem p_d79 : ∀ q ∈ p_c79, decode cX0_init q.1 = .ok (q.2, p_ln q.2) := by decide +kernel
theorem p_d80 : ∀ q ∈ p_c80, decode cX4_splitLeaf q.1 = .ok (q.2, p_ln q.2) := by decide +kernel
theorem p_d81 : ∀ q ∈ p_c81, decode cX4_joinBranch q.1 = .ok (q.2, p_ln q.2) := by decide +kernel
theorem p_d82 : ∀ q ∈ p_c82, decode cX4_uniteBranch q.1 = .ok (q.2, p_ln q.2) := by decide +kernel
theorem p_d83 : ∀ q ∈ p_c83, decode cX4_splitNodesBelow q.1 = .ok (q.2, p_ln q.2) := by decide +kernel
theorem p_d84 : ∀ q ∈ p_c84, decode cX4_joinWhereLeafCostsNoMore q.1 = .ok (q.2, p_ln q.2) := by decide +kernel
theorem p_d85 : ∀ q ∈ p_c85, decode cX4_branchCost q.1 = .ok (q.2, p_ln q.2) := by decide +kernel
theorem p_d86 : ∀ q ∈ p_c86, decode cX4_digits q.1 = .ok (q.2, p_ln q.2) := by decide +kernel
theorem p_d87 : ∀ q ∈ p_c87, decode cX4_gatherSamples q.1 = .ok (q.2, p_ln q.2) := by decide +kernel
theorem p_d88 : ∀ q ∈ p_c88, decode cX0_init q.1 = .ok (q.2, p_ln q.2) := by decide +kernel
theorem p_d89 : ∀ q ∈ p_c89, decode cX0_init q.1 = .ok (q.2, p_ln q.2) := by decide +kernel
theorem p_d90 : ∀ q ∈ p_c90, decode cX0_init q.1 = .ok (q.2, p_ln q.2) := by decide +kernel
theorem p_d91 : ∀ q ∈ p_c91, decode cX0_init q.1 = .ok (q.2, p_ln q.2) := by decide +kernel
theorem p_d92 : ∀ q ∈ p_c92, decode cX0_init q.1 = .ok (q.2, p_ln q.2) := by decide +kernel
theorem p_d93 : ∀ q ∈ p_c93, decode cX0_init q.1 = .ok (q.2, p_ln q.2) := by decide +kernel
theorem p_d94 : ∀ q ∈ p_c94, decode cL_cell q.1 = .ok (q.2, p_ln q.2) := by decide +kernel
theorem p_d95 : ∀ q ∈ p_c95, decode cL_at q.1 = .ok (q.2, p_ln q.2) := by decide +kernel
theorem p_d96 : ∀ q ∈ p_c96, decode cL_back q.1 = .ok (q.2, p_ln q.2) := by decide +kernel
theorem p_d97 : ∀ q ∈ p_c97, decode cL_covers q.1 = .ok (q.2, p_ln q.2) := by decide +kernel
theorem p_d98 : ∀ q ∈ p_c98, decode cL_splits q.1 = .ok (q.2, p_ln q.2) := by decide +kernel
theorem p_d99_0 : ∀ q ∈ p_c99_0, decode cL_signal q.1 = .ok (q.2, p_ln q.2) := by decide +kernel
theorem p_d99_1 : ∀ q ∈ p_c99_1, decode cL_signal q.1 = .ok (q.2, p_ln q.2) := by decide +kernel
theorem p_d99_2 : ∀ q ∈ p_c99_2, decode cL_signal q.1 = .ok (q.2, p_ln q.2) := by decide +kernel
theorem p_d99 : ∀ q ∈ p_c99, decode cL_signal q.1 = .ok (q.2, p_ln q.2) := List.forall_mem_append.mpr ⟨p_d99_0, List.forall_mem_append.mpr ⟨p_d99_1, p_d99_2⟩⟩
theorem p_d100 : ∀ q ∈ p_c100, decode cL_law q.1 = .ok (q.2, p_ln q.2) := by decide +kernel
def p_dp (q : List (Nat × Instr) × ByteArray) : Prop := ∀ x ∈ q.1, decode q.2 x.1 = .ok (x.2, p_ln x.2)
theorem p_dc0 : ∀ q ∈ ([(p_c0, cX0_init), (p_c1, cX0_init), (p_c2, cX0_init), (p_c3, cX0_init), (p_c4, cX0_init), (p_c5, cX0_init), (p_c6, cX0_init), (p_c7, cX0_init), (p_c8, cX0_init), (p_c9, cX0_init), (p_c10, cX0_init), (p_c11, cX0_init), (p_c12, cX0_init), (p_c13, cX0_init), (p_c14, cX1_init), (p_c15, cX1_wavelet)] : List (List (Nat × Instr) × ByteArray)), p_dp q := List.forall_mem_cons.mpr ⟨p_d0, List.forall_mem_cons.mpr ⟨p_d1, List.forall_mem_cons.mpr ⟨p_d2, List.forall_mem_cons.mpr ⟨p_d3, List.forall_mem_cons.mpr ⟨p_d4, List.forall_mem_cons.mpr ⟨p_d5, List.forall_mem_cons.mpr ⟨p_d6, List.forall_mem_cons.mpr ⟨p_d7, List.forall_mem_cons.mpr ⟨p_d8, List.forall_mem_cons.mpr ⟨p_d9, List.forall_mem_cons.mpr ⟨p_d10, List.forall_mem_cons.mpr ⟨p_d11, List.forall_mem_cons.mpr ⟨p_d12, List.forall_mem_cons.mpr ⟨p_d13, List.forall_mem_cons.mpr ⟨p_d14, List.forall_mem_cons.mpr ⟨p_d15, fun _ h => absurd h List.not_mem_nil⟩⟩⟩⟩⟩⟩⟩⟩⟩⟩⟩⟩⟩⟩⟩⟩
theorem p_dc1 : ∀ q ∈ ([(p_c16, cX1_use), (p_c17, cX1_divide), (p_c18, cX1_unite), (p_c19, cX1_steps), (p_c20, cX1_lift), (p_c21, cX1_oddChange), (p_c22, cX1_evenChange), (p_c23, cX2_init), (p_c24, cX2_get), (p_c25, cX2_set), (p_c26, cX2_magnitude), (p_c27, cX2_clear), (p_c28, cX2_copy), (p_c29, cX3_init), (p_c30, cX3_width), (p_c31, cX3_plant)] : List (List (Nat × Instr) × ByteArray)), p_dp q := List.forall_mem_cons.mpr ⟨p_d16, List.forall_mem_cons.mpr ⟨p_d17, List.forall_mem_cons.mpr ⟨p_d18, List.forall_mem_cons.mpr ⟨p_d19, List.forall_mem_cons.mpr ⟨p_d20, List.forall_mem_cons.mpr ⟨p_d21, List.forall_mem_cons.mpr ⟨p_d22, List.forall_mem_cons.mpr ⟨p_d23, List.forall_mem_cons.mpr ⟨p_d24, List.forall_mem_cons.mpr ⟨p_d25, List.forall_mem_cons.mpr ⟨p_d26, List.forall_mem_cons.mpr ⟨p_d27, List.forall_mem_cons.mpr ⟨p_d28, List.forall_mem_cons.mpr ⟨p_d29, List.forall_mem_cons.mpr ⟨p_d30, List.forall_mem_cons.mpr ⟨p_d31, fun _ h => absurd h List.not_mem_nil⟩⟩⟩⟩⟩⟩⟩⟩⟩⟩⟩⟩⟩⟩⟩⟩
theorem p_dc2 : ∀ q ∈ ([(p_c32, cX3_exists), (p_c33, cX3_hasChildren), (p_c34, cX3_canBeSplit), (p_c35, cX3_giveChildren), (p_c36, cX3_takeChildren), (p_c37, cX3_isWithin), (p_c38, cX3_levelOf), (p_c39, cX3_widthOf), (p_c40, cX3_startOf), (p_c41, cX3_leafOver), (p_c42, cX3_leafCount), (p_c43, cX4_init), (p_c44, cX4_begin), (p_c45, cX4_setSample), (p_c46, cX4_sample), (p_c47, cX4_length)] : List (List (Nat × Instr) × ByteArray)), p_dp q := List.forall_mem_cons.mpr ⟨p_d32, List.forall_mem_cons.mpr ⟨p_d33, List.forall_mem_cons.mpr ⟨p_d34, List.forall_mem_cons.mpr ⟨p_d35, List.forall_mem_cons.mpr ⟨p_d36, List.forall_mem_cons.mpr ⟨p_d37, List.forall_mem_cons.mpr ⟨p_d38, List.forall_mem_cons.mpr ⟨p_d39, List.forall_mem_cons.mpr ⟨p_d40, List.forall_mem_cons.mpr ⟨p_d41, List.forall_mem_cons.mpr ⟨p_d42, List.forall_mem_cons.mpr ⟨p_d43, List.forall_mem_cons.mpr ⟨p_d44, List.forall_mem_cons.mpr ⟨p_d45, List.forall_mem_cons.mpr ⟨p_d46, List.forall_mem_cons.mpr ⟨p_d47, fun _ h => absurd h List.not_mem_nil⟩⟩⟩⟩⟩⟩⟩⟩⟩⟩⟩⟩⟩⟩⟩⟩
theorem p_dc3 : ∀ q ∈ ([(p_c48, cX4_setWavelet), (p_c49, cX4_split), (p_c50, cX4_join), (p_c51, cX4_isNode), (p_c52, cX4_isLeaf), (p_c53, cX4_leaves), (p_c54, cX4_leafAt), (p_c55, cX4_costOf), (p_c56, cX4_chooseBasis), (p_c57, cX4_sizeOf), (p_c58, cX4_number), (p_c59, cX0_init), (p_c60, cX4_filtered), (p_c61, cX0_init), (p_c62, cX0_init), (p_c63, cX0_init)] : List (List (Nat × Instr) × ByteArray)), p_dp q := List.forall_mem_cons.mpr ⟨p_d48, List.forall_mem_cons.mpr ⟨p_d49, List.forall_mem_cons.mpr ⟨p_d50, List.forall_mem_cons.mpr ⟨p_d51, List.forall_mem_cons.mpr ⟨p_d52, List.forall_mem_cons.mpr ⟨p_d53, List.forall_mem_cons.mpr ⟨p_d54, List.forall_mem_cons.mpr ⟨p_d55, List.forall_mem_cons.mpr ⟨p_d56, List.forall_mem_cons.mpr ⟨p_d57, List.forall_mem_cons.mpr ⟨p_d58, List.forall_mem_cons.mpr ⟨p_d59, List.forall_mem_cons.mpr ⟨p_d60, List.forall_mem_cons.mpr ⟨p_d61, List.forall_mem_cons.mpr ⟨p_d62, List.forall_mem_cons.mpr ⟨p_d63, fun _ h => absurd h List.not_mem_nil⟩⟩⟩⟩⟩⟩⟩⟩⟩⟩⟩⟩⟩⟩⟩⟩
theorem p_dc4 : ∀ q ∈ ([(p_c64, cX0_init), (p_c65, cX0_init), (p_c66, cX0_init), (p_c67, cX0_init), (p_c68, cX0_init), (p_c69, cX0_init), (p_c70, cX0_init), (p_c71, cX4_requireNode), (p_c72, cX4_requireLeaf), (p_c73, cX4_requireUnsplitRoot), (p_c74, cX0_init), (p_c75, cX4_requirePlaceInSignal), (p_c76, cX4_requirePlaceBelow), (p_c77, cX0_init), (p_c78, cX0_init), (p_c79, cX0_init)] : List (List (Nat × Instr) × ByteArray)), p_dp q := List.forall_mem_cons.mpr ⟨p_d64, List.forall_mem_cons.mpr ⟨p_d65, List.forall_mem_cons.mpr ⟨p_d66, List.forall_mem_cons.mpr ⟨p_d67, List.forall_mem_cons.mpr ⟨p_d68, List.forall_mem_cons.mpr ⟨p_d69, List.forall_mem_cons.mpr ⟨p_d70, List.forall_mem_cons.mpr ⟨p_d71, List.forall_mem_cons.mpr ⟨p_d72, List.forall_mem_cons.mpr ⟨p_d73, List.forall_mem_cons.mpr ⟨p_d74, List.forall_mem_cons.mpr ⟨p_d75, List.forall_mem_cons.mpr ⟨p_d76, List.forall_mem_cons.mpr ⟨p_d77, List.forall_mem_cons.mpr ⟨p_d78, List.forall_mem_cons.mpr ⟨p_d79, fun _ h => absurd h List.not_mem_nil⟩⟩⟩⟩⟩⟩⟩⟩⟩⟩⟩⟩⟩⟩⟩⟩
theorem p_dc5 : ∀ q ∈ ([(p_c80, cX4_splitLeaf), (p_c81, cX4_joinBranch), (p_c82, cX4_uniteBranch), (p_c83, cX4_splitNodesBelow), (p_c84, cX4_joinWhereLeafCostsNoMore), (p_c85, cX4_branchCost), (p_c86, cX4_digits), (p_c87, cX4_gatherSamples), (p_c88, cX0_init), (p_c89, cX0_init), (p_c90, cX0_init), (p_c91, cX0_init), (p_c92, cX0_init), (p_c93, cX0_init), (p_c94, cL_cell), (p_c95, cL_at)] : List (List (Nat × Instr) × ByteArray)), p_dp q := List.forall_mem_cons.mpr ⟨p_d80, List.forall_mem_cons.mpr ⟨p_d81, List.forall_mem_cons.mpr ⟨p_d82, List.forall_mem_cons.mpr ⟨p_d83, List.forall_mem_cons.mpr ⟨p_d84, List.forall_mem_cons.mpr ⟨p_d85, List.forall_mem_cons.mpr ⟨p_d86, List.forall_mem_cons.mpr ⟨p_d87, List.forall_mem_cons.mpr ⟨p_d88, List.forall_mem_cons.mpr ⟨p_d89, List.forall_mem_cons.mpr ⟨p_d90, List.forall_mem_cons.mpr ⟨p_d91, List.forall_mem_cons.mpr ⟨p_d92, List.forall_mem_cons.mpr ⟨p_d93, List.forall_mem_cons.mpr ⟨p_d94, List.forall_mem_cons.mpr ⟨p_d95, fun _ h => absurd h List.not_mem_nil⟩⟩⟩⟩⟩⟩⟩⟩⟩⟩⟩⟩⟩⟩⟩⟩
theorem p_dc6 : ∀ q ∈ ([(p_c96, cL_back), (p_c97, cL_covers), (p_c98, cL_splits), (p_c99, cL_signal), (p_c100, cL_law)] : List (List (Nat × Instr) × ByteArray)), p_dp q := List.forall_mem_cons.mpr ⟨p_d96, List.forall_mem_cons.mpr ⟨p_d97, List.forall_mem_cons.mpr ⟨p_d98, List.forall_mem_cons.mpr ⟨p_d99, List.forall_mem_cons.mpr ⟨p_d100, fun _ h => absurd h List.not_mem_nil⟩⟩⟩⟩⟩
theorem p_dall : ∀ q ∈ p_codes.zip p_bT, p_dp q := by
  show ∀ q ∈ ([(p_c0, cX0_init), (p_c1, cX0_init), (p_c2, cX0_init), (p_c3, cX0_init), (p_c4, cX0_init), (p_c5, cX0_init), (p_c6, cX0_init), (p_c7, cX0_init), (p_c8, cX0_init), (p_c9, cX0_init), (p_c10, cX0_init), (p_c11, cX0_init), (p_c12, cX0_init), (p_c13, cX0_init), (p_c14, cX1_init), (p_c15, cX1_wavelet)] : List (List (Nat × Instr) × ByteArray)) ++ (([(p_c16, cX1_use), (p_c17, cX1_divide), (p_c18, cX1_unite), (p_c19, cX1_steps), (p_c20, cX1_lift), (p_c21, cX1_oddChange), (p_c22, cX1_evenChange), (p_c23, cX2_init), (p_c24, cX2_get), (p_c25, cX2_set), (p_c26, cX2_magnitude), (p_c27, cX2_clear), (p_c28, cX2_copy), (p_c29, cX3_init), (p_c30, cX3_width), (p_c31, cX3_plant)] : List (List (Nat × Instr) × ByteArray)) ++ (([(p_c32, cX3_exists), (p_c33, cX3_hasChildren), (p_c34, cX3_canBeSplit), (p_c35, cX3_giveChildren), (p_c36, cX3_takeChildren), (p_c37, cX3_isWithin), (p_c38, cX3_levelOf), (p_c39, cX3_widthOf), (p_c40, cX3_startOf), (p_c41, cX3_leafOver), (p_c42, cX3_leafCount), (p_c43, cX4_init), (p_c44, cX4_begin), (p_c45, cX4_setSample), (p_c46, cX4_sample), (p_c47, cX4_length)] : List (List (Nat × Instr) × ByteArray)) ++ (([(p_c48, cX4_setWavelet), (p_c49, cX4_split), (p_c50, cX4_join), (p_c51, cX4_isNode), (p_c52, cX4_isLeaf), (p_c53, cX4_leaves), (p_c54, cX4_leafAt), (p_c55, cX4_costOf), (p_c56, cX4_chooseBasis), (p_c57, cX4_sizeOf), (p_c58, cX4_number), (p_c59, cX0_init), (p_c60, cX4_filtered), (p_c61, cX0_init), (p_c62, cX0_init), (p_c63, cX0_init)] : List (List (Nat × Instr) × ByteArray)) ++ (([(p_c64, cX0_init), (p_c65, cX0_init), (p_c66, cX0_init), (p_c67, cX0_init), (p_c68, cX0_init), (p_c69, cX0_init), (p_c70, cX0_init), (p_c71, cX4_requireNode), (p_c72, cX4_requireLeaf), (p_c73, cX4_requireUnsplitRoot), (p_c74, cX0_init), (p_c75, cX4_requirePlaceInSignal), (p_c76, cX4_requirePlaceBelow), (p_c77, cX0_init), (p_c78, cX0_init), (p_c79, cX0_init)] : List (List (Nat × Instr) × ByteArray)) ++ (([(p_c80, cX4_splitLeaf), (p_c81, cX4_joinBranch), (p_c82, cX4_uniteBranch), (p_c83, cX4_splitNodesBelow), (p_c84, cX4_joinWhereLeafCostsNoMore), (p_c85, cX4_branchCost), (p_c86, cX4_digits), (p_c87, cX4_gatherSamples), (p_c88, cX0_init), (p_c89, cX0_init), (p_c90, cX0_init), (p_c91, cX0_init), (p_c92, cX0_init), (p_c93, cX0_init), (p_c94, cL_cell), (p_c95, cL_at)] : List (List (Nat × Instr) × ByteArray)) ++ (([(p_c96, cL_back), (p_c97, cL_covers), (p_c98, cL_splits), (p_c99, cL_signal), (p_c100, cL_law)] : List (List (Nat × Instr) × ByteArray)))))))), _
  exact List.forall_mem_append.mpr ⟨p_dc0, List.forall_mem_append.mpr ⟨p_dc1, List.forall_mem_append.mpr ⟨p_dc2, List.forall_mem_append.mpr ⟨p_dc3, List.forall_mem_append.mpr ⟨p_dc4, List.forall_mem_append.mpr ⟨p_dc5, p_dc6⟩⟩⟩⟩⟩⟩
theorem p_dec {mi pc : Nat} {ins : Instr} (h : p_at mi pc = some ins) : decode (p_b mi) pc = .ok (ins, p_ln ins) := by
  unfold p_at at h
  cases hc : p_codes[mi]? with
  | none => rw [hc] at h; simp at h
  | some l =>
    rw [hc] at h
    have h1 : (pc, ins) ∈ l := p_lk h
    have hlen : p_bT.length = p_codes.length := rfl
    have hm : mi < p_bT.length := by rw [hlen]; exact (List.getElem?_eq_some_iff.mp hc).1
    have hb : p_bT[mi]? = some (p_b mi) := by
      rw [List.getElem?_eq_getElem hm]
      simp only [p_b, List.getD_eq_getElem?_getD, List.getElem?_eq_getElem hm, Option.getD_some]
    have h2 : (l, p_b mi) ∈ p_codes.zip p_bT := by
      apply List.mem_of_getElem? (i := mi)
      rw [List.getElem?_zip_eq_some]
      exact ⟨hc, hb⟩
    have h3 : p_dp (l, p_b mi) := p_dall (l, p_b mi) h2
    exact h3 (pc, ins) h1
def p_xn (E : Nat) : String := match E with
  | 0 => "java/lang/IllegalArgumentException"
  | 1 => "java/lang/IllegalStateException"
  | _ => "java/lang/IndexOutOfBoundsException"
def p_xs : List String := ["java/lang/RuntimeException", "java/lang/Exception"]
def p_txT : List (Nat × String) := [(52, "a signal has 4, 8, 16 or 32 samples"), (71, "a sample is -1000 to 1000"), (87, "a wavelet is 0 to 2"), (104, "the node cannot be split"), (117, "the node has no children"), (130, "there are not so many leaves"), (139, "levels are 1 to 3"), (161, "the wavelet 2 has no filter here"), (215, "there is no such node"), (217, "the node is no leaf"), (219, "the root has children"), (227, "there is no such place")]
def p_xB : List Cond := ((List.range 3).flatMap fun E => [(54, 0), (106, 1), (132, 2)].flatMap fun q => if q.2 = E then (vx_atS RX4 q.1 (p_xn E) p_xs).filter (fun w => !goodWord w) else [])
theorem p_k9 : p_thrT.all (fun q => decide (q.1.1 = 4) && decide (q.2 < 3) && p_hb (.classLink RX4 q.1.2.1 (p_xn q.2)) && p_hb (.initialized (p_xn q.2)) && decide (q.1.2.2.1 ∈ p_txT.map (fun x => x.1)) && ((vx_atS RX4 q.1.2.2.2 (p_xn q.2) p_xs).filter goodWord).all (fun w => decide (w ∈ lw_tbl)) && ((vx_atS RX4 q.1.2.2.2 (p_xn q.2) p_xs).filter (fun w => !goodWord w)).all (fun w => decide (w ∈ p_xB)) && (Cond.classLink RX4 q.1.2.1 (p_xn q.2) :: Cond.initialized (p_xn q.2) :: vx_atS RX4 q.1.2.2.2 (p_xn q.2) p_xs).all vx_ot && Bundle.fit (p_xn q.2) && p_xs.all Bundle.fit) = true := by decide +kernel
end
section
/-! THE PURE INTERPRETER: the bytecode of these classes over a fixed graph of objects. Values: .ref k is the k-th object of p_obs; an unset local is p_U. -/
def p_U : Value := .retAddr 0
abbrev pW : Type := (Nat → Nat → Int32) × (Nat → Nat → Int64) × (Nat → Nat → Int32)
abbrev pO : Type := Option Value ⊕ (Nat ⊕ List Value)
abbrev pR : Type := pO × pW × Nat
abbrev pJ : Type := Nat × List Value × List Value × pW
abbrev pS : Type := pR ⊕ (pJ ⊕ (Nat × List Value × List Value))
abbrev pX : Type := Option (Nat × (Nat → Int32))
def p_u {α : Type} (f : Nat → Nat → α) (o k : Nat) (v : α) : Nat → Nat → α := fun a b => if a = o ∧ b = k then v else f a b
def p_J (pc : Nat) (L st : List Value) (w : pW) : Option pS := some (.inr (.inl (pc, L, st, w)))
def p_D (o : pO) (w : pW) (k : Nat) : Option pS := some (.inl (o, w, k))
def p_st (L : List Value) (k : Nat) (v : Value) : List Value :=
  (match k with
   | 0 => L
   | j + 1 => match L[j]? with
     | some x => if x.category = 2 then L.set j p_U else L
     | none => L).set k v
def p_lI (k pc : Nat) (L st : List Value) (w : pW) : Option pS := match L[k]? with
  | some (.int x) => p_J pc L (.int x :: st) w
  | _ => none
def p_lJ (k pc : Nat) (L st : List Value) (w : pW) : Option pS := match L[k]? with
  | some (.long x) => p_J pc L (.long x :: st) w
  | _ => none
def p_lA (k pc : Nat) (L st : List Value) (w : pW) : Option pS := match L[k]? with
  | some (.ref x) => p_J pc L (.ref x :: st) w
  | _ => none
def p_sI (k pc : Nat) (L st : List Value) (w : pW) : Option pS := match st with
  | .int x :: s => if k < L.length then p_J pc (p_st L k (.int x)) s w else none
  | _ => none
def p_sJ (k pc : Nat) (L st : List Value) (w : pW) : Option pS := match st with
  | .long x :: s => if k + 1 < L.length then p_J pc ((p_st L k (.long x)).set (k + 1) p_U) s w else none
  | _ => none
def p_i1 (f : Int32 → Int32) (pc : Nat) (L st : List Value) (w : pW) : Option pS := match st with
  | .int x :: s => p_J pc L (.int (f x) :: s) w
  | _ => none
def p_i2 (f : Int32 → Int32 → Int32) (pc : Nat) (L st : List Value) (w : pW) : Option pS := match st with
  | .int y :: .int x :: s => p_J pc L (.int (f x y) :: s) w
  | _ => none
def p_i2z (f : Int32 → Int32 → Int32) (pc : Nat) (L st : List Value) (w : pW) : Option pS := match st with
  | .int y :: .int x :: s => if y = 0 then none else p_J pc L (.int (f x y) :: s) w
  | _ => none
def p_l1 (f : Int64 → Int64) (pc : Nat) (L st : List Value) (w : pW) : Option pS := match st with
  | .long x :: s => p_J pc L (.long (f x) :: s) w
  | _ => none
def p_l2 (f : Int64 → Int64 → Int64) (pc : Nat) (L st : List Value) (w : pW) : Option pS := match st with
  | .long y :: .long x :: s => p_J pc L (.long (f x y) :: s) w
  | _ => none
def p_l2z (f : Int64 → Int64 → Int64) (pc : Nat) (L st : List Value) (w : pW) : Option pS := match st with
  | .long y :: .long x :: s => if y = 0 then none else p_J pc L (.long (f x y) :: s) w
  | _ => none
def p_lsh (f : Int64 → Int32 → Int64) (pc : Nat) (L st : List Value) (w : pW) : Option pS := match st with
  | .int y :: .long x :: s => p_J pc L (.long (f x y) :: s) w
  | _ => none
/-- a jump: the target, if it isn't before the code's begin -/
def p_tg (pc : Nat) (off : Int) : Nat := ((pc : Int) + off).toNat
def p_bo (pc : Nat) (off : Int) : Bool := decide (0 ≤ (pc : Int) + off)
def p_b2 (c : Int32 → Int32 → Bool) (pc : Nat) (off : Int) (L st : List Value) (w : pW) : Option pS := match st with
  | .int y :: .int x :: s => if p_bo pc off = true then p_J (if c x y = true then p_tg pc off else pc + 3) L s w else none
  | _ => none
def p_b1 (c : Int32 → Bool) (pc : Nat) (off : Int) (L st : List Value) (w : pW) : Option pS := match st with
  | .int x :: s => if p_bo pc off = true then p_J (if c x = true then p_tg pc off else pc + 3) L s w else none
  | _ => none
def p_ob (o : Nat) : Option ((Nat × Nat) ⊕ (Nat × List (Option Nat))) := p_obs[o]?
def p_fv (w : pW) (o k : Nat) (f : Option Nat) : Value := match f with
  | some t => .ref t
  | none => .int (w.1 o k)
def p_gf (mi idx pc : Nat) (L st : List Value) (w : pW) : Option pS := match st with
  | .ref o :: s => match p_fld (p_own mi) idx with
    | some (ci, k) => match p_ob o with
      | some (.inr (cj, fs)) => if cj = ci then (match fs[k]? with
        | some f => p_J (pc + 3) L (p_fv w o k f :: s) w
        | none => none) else none
      | _ => none
    | none => none
  | _ => none
def p_pf (mi idx pc : Nat) (L st : List Value) (w : pW) : Option pS := match st with
  | .int v :: .ref o :: s => match p_fld (p_own mi) idx with
    | some (ci, k) => match p_ob o with
      | some (.inr (cj, fs)) => if cj = ci then (match fs[k]? with
        | some none => p_J (pc + 3) L s (p_u w.1 o k v, w.2)
        | _ => none) else none
      | _ => none
    | none => none
  | _ => none
def p_out (i : Int32) (n : Nat) : Bool := decide (i < 0 ∨ n ≤ i.toNatClampNeg)
/-- an int-like array's reading; the script is object 999 -/
def p_ald (scr : pX) (ty pc : Nat) (L st : List Value) (w : pW) : Option pS := match st with
  | .int i :: .ref o :: s => match p_ob o with
    | some (.inl (t, n)) => if t = ty ∧ p_out i n = false then p_J (pc + 1) L (.int (w.2.2 o i.toNatClampNeg) :: s) w else none
    | some (.inr _) => none
    | none => match scr with
      | some (n, xs) => if o = 999 ∧ ty = 1 ∧ p_out i n = false then p_J (pc + 1) L (.int (xs i.toNatClampNeg) :: s) w else none
      | none => none
  | _ => none
def p_lald (pc : Nat) (L st : List Value) (w : pW) : Option pS := match st with
  | .int i :: .ref o :: s => match p_ob o with
    | some (.inl (t, n)) => if t = 2 ∧ p_out i n = false then p_J (pc + 1) L (.long (w.2.1 o i.toNatClampNeg) :: s) w else none
    | _ => none
  | _ => none
/-- baload, bastore: byte or boolean -/
def p_bald (pc : Nat) (L st : List Value) (w : pW) : Option pS := match st with
  | .int i :: .ref o :: s => match p_ob o with
    | some (.inl (t, n)) => if (t = 0 ∨ t = 3) ∧ p_out i n = false then p_J (pc + 1) L (.int (w.2.2 o i.toNatClampNeg) :: s) w else none
    | _ => none
  | _ => none
def p_bty (t : Nat) : FieldType := if t = 0 then .byte else .boolean
def p_bast (pc : Nat) (L st : List Value) (w : pW) : Option pS := match st with
  | .int x :: .int i :: .ref o :: s => match p_ob o with
    | some (.inl (t, n)) => if (t = 0 ∨ t = 3) ∧ p_out i n = false then p_J (pc + 1) L s (w.1, w.2.1, p_u w.2.2 o i.toNatClampNeg (vp_nar (p_bty t) x)) else none
    | _ => none
  | _ => none
def p_iast (pc : Nat) (L st : List Value) (w : pW) : Option pS := match st with
  | .int x :: .int i :: .ref o :: s => match p_ob o with
    | some (.inl (t, n)) => if t = 1 ∧ p_out i n = false then p_J (pc + 1) L s (w.1, w.2.1, p_u w.2.2 o i.toNatClampNeg x) else none
    | _ => none
  | _ => none
def p_last (pc : Nat) (L st : List Value) (w : pW) : Option pS := match st with
  | .long x :: .int i :: .ref o :: s => match p_ob o with
    | some (.inl (t, n)) => if t = 2 ∧ p_out i n = false then p_J (pc + 1) L s (w.1, p_u w.2.1 o i.toNatClampNeg x, w.2.2) else none
    | _ => none
  | _ => none
def p_alen (scr : pX) (pc : Nat) (L st : List Value) (w : pW) : Option pS := match st with
  | .ref o :: s => match p_ob o with
    | some (.inl (_, n)) => p_J (pc + 1) L (.int (Int32.ofNat n) :: s) w
    | some (.inr _) => none
    | none => match scr with
      | some (n, _) => if o = 999 then p_J (pc + 1) L (.int (Int32.ofNat n) :: s) w else none
      | none => none
  | _ => none
def p_abs (x : Int64) : Int64 := if 0 < x then x else -x
def p_max (x y : Int64) : Int64 := if y < x then x else y
def p_min (x y : Int64) : Int64 := if y < x then y else x
def p_cs (l : List Value) : Nat := (l.map fun v => v.category).sum
def p_fits (mi mj : Nat) : Bool := decide (p_rF mj + 1 ≤ p_rF mi) && decide (8 + (p_ml mj + 11) + p_rL mj ≤ p_rL mi)
def p_mok (mi : Nat) : Bool := decide (1 ≤ p_rF mi) && decide (24 ≤ p_rL mi)
/-- a call: of Math, of a static method, of a method of an object of the method's own class -/
def p_iv (virt : Bool) (mi idx pc : Nat) (L st : List Value) (w : pW) : Option pS := match p_inv (p_own mi) idx with
  | some (0, 0, _) => match st with
    | .long x :: s => if virt = false ∧ p_cs s ≤ 8 ∧ p_mok mi = true then p_J (pc + 3) L (.long (p_abs x) :: s) w else none
    | _ => none
  | some (0, 1, _) => match st with
    | .long y :: .long x :: s => if virt = false ∧ p_cs s ≤ 8 ∧ p_mok mi = true then p_J (pc + 3) L (.long (p_max x y) :: s) w else none
    | _ => none
  | some (0, _, _) => match st with
    | .long y :: .long x :: s => if virt = false ∧ p_cs s ≤ 8 ∧ p_mok mi = true then p_J (pc + 3) L (.long (p_min x y) :: s) w else none
    | _ => none
  | some (_, mj, n) => if n ≤ st.length ∧ p_cs (st.drop n) ≤ 8 ∧ p_fits mi mj = true ∧ p_virt mj = virt ∧ p_cs (st.take n).reverse ≤ p_ml mj then
      (if virt = true then
        (match (st.take n).reverse with
         | .ref o :: _ => (match p_ob o with
           | some (.inr (cj, _)) => if cj = p_own mj then some (.inr (.inr (mj, (st.take n).reverse, st.drop n))) else none
           | _ => none)
         | _ => none)
       else some (.inr (.inr (mj, (st.take n).reverse, st.drop n)))) else none
  | none => none
def p_nw (mi ik pc : Nat) (st : List Value) (w : pW) : Option pS := match st, p_at mi (pc + 3), p_at mi (pc + 4), p_at mi (pc + 6), p_at mi (pc + 9) with
  | [], some .dup, some (.ldc is), some (.invokespecial ic), some .athrow => match p_thr (p_own mi) ik is ic with
    | some E => if 6 ≤ p_rF mi ∧ 82 ≤ p_rL mi then p_D (.inr (.inl E)) w 1 else none
    | none => none
  | _, _, _, _, _ => none
def p_irt (mi : Nat) (st : List Value) (w : pW) : Option pS := match st with
  | [.int v] => match p_rt mi with
    | some .int => p_D (.inl (some (.int v))) w 0
    | some .boolean => if narrow .boolean (.int v) = .int v then p_D (.inl (some (.int v))) w 0 else none
    | _ => none
  | _ => none
def p_lrt (mi : Nat) (st : List Value) (w : pW) : Option pS := match st with
  | [.long v] => if p_rt mi = some .long then p_D (.inl (some (.long v))) w 0 else none
  | _ => none
def p_vrt (mi : Nat) (st : List Value) (w : pW) : Option pS := match st with
  | [] => if p_rt mi = none then p_D (.inl none) w 0 else none
  | _ => none
def p_swt (pc : Nat) (d lo hi : Int) (os : Array Int) (L st : List Value) (w : pW) : Option pS := match st with
  | .int x :: s => if x.toInt < lo ∨ hi < x.toInt then (if p_bo pc d = true then p_J (p_tg pc d) L s w else none)
    else match os[(x.toInt - lo).toNat]? with
      | some off => if p_bo pc off = true then p_J (p_tg pc off) L s w else none
      | none => none
  | _ => none
def p_gt (mi pc : Nat) (off : Int) (L st : List Value) (w : pW) : Option pS :=
  if p_bo pc off = true then (if mi = p_lawI ∧ pc = p_lawG then (if st = [] then p_D (.inr (.inr L)) w 0 else none) else p_J (p_tg pc off) L st w) else none
def p_dup (pc : Nat) (L st : List Value) (w : pW) : Option pS := match st with
  | v :: s => if v.category = 1 then p_J (pc + 1) L (v :: v :: s) w else none
  | _ => none
def p_dup2 (pc : Nat) (L st : List Value) (w : pW) : Option pS := match st with
  | v :: u :: s => if v.category = 1 ∧ u.category = 1 then p_J (pc + 1) L (v :: u :: v :: u :: s) w else none
  | _ => none
def p_pop (pc : Nat) (L st : List Value) (w : pW) : Option pS := match st with
  | v :: s => if v.category = 1 then p_J (pc + 1) L s w else none
  | _ => none
def p_inc (k : Nat) (n : Int) (pc : Nat) (L st : List Value) (w : pW) : Option pS := match L[k]? with
  | some (.int x) => p_J (pc + 3) (L.set k (.int (x + Int32.ofInt n))) st w
  | _ => none
def p_ex (scr : pX) (mi pc : Nat) (ins : Instr) (L st : List Value) (w : pW) : Option pS :=
  match ins with
  | .iload k => p_lI k (pc + 2) L st w
  | .iload_n k => p_lI k.val (pc + 1) L st w
  | .lload k => p_lJ k (pc + 2) L st w
  | .lload_n k => p_lJ k.val (pc + 1) L st w
  | .aload k => p_lA k (pc + 2) L st w
  | .aload_n k => p_lA k.val (pc + 1) L st w
  | .istore k => p_sI k (pc + 2) L st w
  | .istore_n k => p_sI k.val (pc + 1) L st w
  | .lstore k => p_sJ k (pc + 2) L st w
  | .lstore_n k => p_sJ k.val (pc + 1) L st w
  | .iconst n => p_J (pc + 1) L (.int (Int32.ofInt n) :: st) w
  | .bipush n => p_J (pc + 2) L (.int (Int8.ofInt n).toInt32 :: st) w
  | .sipush n => p_J (pc + 3) L (.int (Int16.ofInt n).toInt32 :: st) w
  | .lconst n => p_J (pc + 1) L (.long (Int64.ofNat n.val) :: st) w
  | .ldc i => (match p_cI (p_own mi) i with
    | some v => p_J (pc + 2) L (.int v :: st) w
    | none => none)
  | .ldc2_w i => (match p_cJ (p_own mi) i with
    | some v => p_J (pc + 3) L (.long v :: st) w
    | none => none)
  | .iadd => p_i2 (fun x y => x + y) (pc + 1) L st w
  | .isub => p_i2 (fun x y => x - y) (pc + 1) L st w
  | .imul => p_i2 (fun x y => x * y) (pc + 1) L st w
  | .iand => p_i2 (fun x y => x &&& y) (pc + 1) L st w
  | .ior => p_i2 (fun x y => x ||| y) (pc + 1) L st w
  | .iushr => p_i2 (fun x y => (x.toUInt32 >>> (y.toUInt32 &&& Int32.toUInt32 31)).toInt32) (pc + 1) L st w
  | .ishl => p_i2 (fun x y => x <<< (y &&& 31)) (pc + 1) L st w
  | .ishr => p_i2 (fun x y => x >>> (y &&& 31)) (pc + 1) L st w
  | .idiv => p_i2z (fun x y => x / y) (pc + 1) L st w
  | .irem => p_i2z (fun x y => x - x / y * y) (pc + 1) L st w
  | .ineg => p_i1 (fun x => -x) (pc + 1) L st w
  | .ladd => p_l2 (fun x y => x + y) (pc + 1) L st w
  | .lsub => p_l2 (fun x y => x - y) (pc + 1) L st w
  | .lmul => p_l2 (fun x y => x * y) (pc + 1) L st w
  | .land => p_l2 (fun x y => x &&& y) (pc + 1) L st w
  | .ldiv => p_l2z (fun x y => x / y) (pc + 1) L st w
  | .lrem => p_l2z (fun x y => x - x / y * y) (pc + 1) L st w
  | .lneg => p_l1 (fun x => -x) (pc + 1) L st w
  | .lshl => p_lsh (fun x y => x <<< (y.toInt64 &&& 63)) (pc + 1) L st w
  | .lshr => p_lsh (fun x y => x >>> (y.toInt64 &&& 63)) (pc + 1) L st w
  | .lcmp => (match st with
    | .long y :: .long x :: s => p_J (pc + 1) L (.int (lg_cmp x y) :: s) w
    | _ => none)
  | .i2l => (match st with
    | .int x :: s => p_J (pc + 1) L (.long x.toInt64 :: s) w
    | _ => none)
  | .l2i => (match st with
    | .long x :: s => p_J (pc + 1) L (.int x.toInt32 :: s) w
    | _ => none)
  | .i2b => p_i1 (fun x => x.toInt8.toInt32) (pc + 1) L st w
  | .iinc k n => p_inc k n pc L st w
  | .dup => p_dup pc L st w
  | .dup2 => p_dup2 pc L st w
  | .pop => p_pop pc L st w
  | .goto off => p_gt mi pc off L st w
  | .if_icmp .eq off => p_b2 (fun x y => decide (x = y)) pc off L st w
  | .if_icmp .ne off => p_b2 (fun x y => decide (¬ x = y)) pc off L st w
  | .if_icmp .lt off => p_b2 (fun x y => decide (x < y)) pc off L st w
  | .if_icmp .ge off => p_b2 (fun x y => decide (y ≤ x)) pc off L st w
  | .if_icmp .gt off => p_b2 (fun x y => decide (y < x)) pc off L st w
  | .if_icmp .le off => p_b2 (fun x y => decide (x ≤ y)) pc off L st w
  | .ifCond .eq off => p_b1 (fun x => decide (x = 0)) pc off L st w
  | .ifCond .ne off => p_b1 (fun x => decide (¬ x = 0)) pc off L st w
  | .ifCond .lt off => p_b1 (fun x => decide (x < 0)) pc off L st w
  | .ifCond .ge off => p_b1 (fun x => decide (0 ≤ x)) pc off L st w
  | .ifCond .gt off => p_b1 (fun x => decide (0 < x)) pc off L st w
  | .ifCond .le off => p_b1 (fun x => decide (x ≤ 0)) pc off L st w
  | .getfield i => p_gf mi i pc L st w
  | .putfield i => p_pf mi i pc L st w
  | .iaload => p_ald scr 1 pc L st w
  | .laload => p_lald pc L st w
  | .baload => p_bald pc L st w
  | .iastore => p_iast pc L st w
  | .lastore => p_last pc L st w
  | .bastore => p_bast pc L st w
  | .arraylength => p_alen scr pc L st w
  | .invokevirtual i => p_iv true mi i pc L st w
  | .invokestatic i => p_iv false mi i pc L st w
  | .new i => p_nw mi i pc st w
  | .ireturn => p_irt mi st w
  | .lreturn => p_lrt mi st w
  | .return_ => p_vrt mi st w
  | .tableswitch d lo hi os => p_swt pc d lo hi os L st w
  | _ => none
def p_stp (scr : pX) (mi pc : Nat) (L st : List Value) (w : pW) : Option pS := match p_at mi pc with
  | some ins => p_ex scr mi pc ins L st w
  | none => none
/-- the locals with which a method begins -/
def p_ent (as : List Value) (n : Nat) : List Value := ((as.flatMap fun v => if v.category = 2 then [v, p_U] else [v]) ++ List.replicate n p_U).take n
/-- behind a callee -/
def p_run : Nat → pX → Nat → Nat → List Value → List Value → pW → Option pR
  | 0, _, _, _, _, _, _ => none
  | n + 1, scr, mi, pc, L, st, w => match p_stp scr mi pc L st w with
    | none => none
    | some (.inl r) => some r
    | some (.inr (.inl j)) => p_run n scr mi j.1 j.2.1 j.2.2.1 j.2.2.2
    | some (.inr (.inr q)) => match p_run n none q.1 0 (p_ent q.2.1 (p_ml q.1)) [] w with
      | none => none
      | some (.inl v, w1, k1) => (match p_run n scr mi (pc + 3) L (v.toList ++ q.2.2) w1 with
        | some (o, w2, k2) => some (o, w2, k1 + k2)
        | none => none)
      | some (.inr (.inl E), w1, k1) => (match p_hd mi pc E with
        | some h => some (.inl (some (.int h.2.2)), w1, k1)
        | none => if p_hh mi = [] then some (.inr (.inl E), w1, k1) else none)
      | some (.inr (.inr _), _, _) => none
end
section
/-! WITHOUT FUEL: p_ev is what some fuel gives -/
theorem p_run_S : ∀ (n : Nat) (scr : pX) (mi pc : Nat) (L st : List Value) (w : pW) (r : pR), p_run n scr mi pc L st w = some r → p_run (n + 1) scr mi pc L st w = some r := by
  intro n
  induction n with
  | zero => intro scr mi pc L st w r h; simp [p_run] at h
  | succ n ih =>
    intro scr mi pc L st w r h
    rw [p_run] at h ⊢
    cases hs : p_stp scr mi pc L st w with
    | none => rw [hs] at h; simp at h
    | some q =>
      rw [hs] at h
      rcases q with q | q | q
      · exact h
      · exact ih _ _ _ _ _ _ _ h
      · dsimp only at h ⊢
        cases hc : p_run n none q.1 0 (p_ent q.2.1 (p_ml q.1)) [] w with
        | none => rw [hc] at h; simp at h
        | some c =>
          rw [hc] at h
          rw [ih _ _ _ _ _ _ _ hc]
          obtain ⟨o, w1, k1⟩ := c
          rcases o with v | E | z
          · dsimp only at h ⊢
            cases hd : p_run n scr mi (pc + 3) L (v.toList ++ q.2.2) w1 with
            | none => rw [hd] at h; simp at h
            | some d => rw [hd] at h; rw [ih _ _ _ _ _ _ _ hd]; exact h
          · exact h
          · exact h
theorem p_run_le {n k : Nat} (hk : n ≤ k) {scr : pX} {mi pc : Nat} {L st : List Value} {w : pW} {r : pR} (h : p_run n scr mi pc L st w = some r) : p_run k scr mi pc L st w = some r := by
  induction hk with
  | refl => exact h
  | step _ ih => exact p_run_S _ _ _ _ _ _ _ _ ih
theorem p_ev_ex (scr : pX) (mi pc : Nat) (L st : List Value) (w : pW) : ∃ o : Option pR, ∀ r, o = some r ↔ ∃ n, p_run n scr mi pc L st w = some r := by
  rcases Classical.em (∃ r n, p_run n scr mi pc L st w = some r) with h | h
  · obtain ⟨r, n, h⟩ := h
    refine ⟨some r, fun r2 => ⟨fun e => ⟨n, by cases e; exact h⟩, fun ⟨k, e⟩ => ?_⟩⟩
    have h1 := p_run_le (Nat.le_max_left n k) h
    have h2 := p_run_le (Nat.le_max_right n k) e
    rw [h1] at h2
    exact h2
  · exact ⟨none, fun r => ⟨fun e => by simp at e, fun e => absurd ⟨r, e⟩ h⟩⟩
noncomputable def p_ev (scr : pX) (mi pc : Nat) (L st : List Value) (w : pW) : Option pR := Classical.choose (p_ev_ex scr mi pc L st w)
theorem p_ev_iff {scr : pX} {mi pc : Nat} {L st : List Value} {w : pW} {r : pR} : p_ev scr mi pc L st w = some r ↔ ∃ n, p_run n scr mi pc L st w = some r := Classical.choose_spec (p_ev_ex scr mi pc L st w) r
theorem p_opt {α : Type} {a b : Option α} (h : ∀ r, a = some r ↔ b = some r) : a = b := by
  cases a with
  | none => cases b with
    | none => rfl
    | some y => exact absurd ((h y).mpr rfl) (by simp)
  | some x => exact ((h x).mp rfl).symm
theorem p_ev_stp {scr : pX} {mi pc : Nat} {L st : List Value} {w : pW} {r : pR} : p_ev scr mi pc L st w = some r ↔ ∃ n, p_run (n + 1) scr mi pc L st w = some r := by
  rw [p_ev_iff]
  exact ⟨fun ⟨n, h⟩ => ⟨n, p_run_S _ _ _ _ _ _ _ _ h⟩, fun ⟨n, h⟩ => ⟨_, h⟩⟩
theorem p_ev_jump {scr : pX} {mi pc pc1 : Nat} {L st L1 st1 : List Value} {w w1 : pW} (h : p_stp scr mi pc L st w = some (.inr (.inl (pc1, L1, st1, w1)))) : p_ev scr mi pc L st w = p_ev scr mi pc1 L1 st1 w1 := by
  apply p_opt
  intro r
  rw [p_ev_stp, p_ev_iff]
  simp only [p_run, h]
theorem p_ev_done {scr : pX} {mi pc : Nat} {L st : List Value} {w : pW} {r : pR} (h : p_stp scr mi pc L st w = some (.inl r)) : p_ev scr mi pc L st w = some r := by
  rw [p_ev_stp]
  exact ⟨0, by simp only [p_run, h]⟩
/-- behind a callee -/
noncomputable def p_bnd (scr : pX) (mi pc pc1 : Nat) (L rest : List Value) : Option pR → Option pR
  | none => none
  | some (.inl v, w1, k1) => (p_ev scr mi pc1 L (v.toList ++ rest) w1).map (fun q => (q.1, q.2.1, k1 + q.2.2))
  | some (.inr (.inl E), w1, k1) => (match p_hd mi pc E with
    | some h => some (.inl (some (.int h.2.2)), w1, k1)
    | none => if p_hh mi = [] then some (.inr (.inl E), w1, k1) else none)
  | some (.inr (.inr _), _, _) => none
theorem p_ev_call {scr : pX} {mi pc mj : Nat} {L st as rest : List Value} {w : pW} (h : p_stp scr mi pc L st w = some (.inr (.inr (mj, as, rest)))) : p_ev scr mi pc L st w = p_bnd scr mi pc (pc + 3) L rest (p_ev none mj 0 (p_ent as (p_ml mj)) [] w) := by
  apply p_opt
  intro r
  rw [p_ev_stp]
  constructor
  · rintro ⟨n, e⟩
    simp only [p_run, h] at e
    cases hc : p_run n none mj 0 (p_ent as (p_ml mj)) [] w with
    | none => rw [hc] at e; simp at e
    | some c =>
      rw [hc] at e
      rw [p_ev_iff.mpr ⟨n, hc⟩]
      obtain ⟨o, w1, k1⟩ := c
      rcases o with v | E | z
      · dsimp only at e
        cases hd : p_run n scr mi (pc + 3) L (v.toList ++ rest) w1 with
        | none => rw [hd] at e; simp at e
        | some d =>
          rw [hd] at e
          simp only [p_bnd]
          rw [p_ev_iff.mpr ⟨n, hd⟩]
          exact e
      · exact e
      · simp at e
  · intro e
    cases hc : p_ev none mj 0 (p_ent as (p_ml mj)) [] w with
    | none => rw [hc] at e; simp [p_bnd] at e
    | some c =>
      obtain ⟨n1, h1⟩ := p_ev_iff.mp hc
      rw [hc] at e
      obtain ⟨o, w1, k1⟩ := c
      rcases o with v | E | z
      · simp only [p_bnd] at e
        cases hd : p_ev scr mi (pc + 3) L (v.toList ++ rest) w1 with
        | none => rw [hd] at e; simp at e
        | some d =>
          obtain ⟨n2, h2⟩ := p_ev_iff.mp hd
          rw [hd] at e
          refine ⟨max n1 n2, ?_⟩
          simp only [p_run, h]
          rw [p_run_le (Nat.le_max_left n1 n2) h1]
          dsimp only
          rw [p_run_le (Nat.le_max_right n1 n2) h2]
          exact e
      · refine ⟨n1, ?_⟩
        simp only [p_run, h, h1]
        exact e
      · simp [p_bnd] at e
theorem p_map0 (o : Option pR) : o.map (fun q => (q.1, q.2.1, 0 + q.2.2)) = o := by
  cases o with
  | none => rfl
  | some q => obtain ⟨a, b, c⟩ := q; simp
theorem p_bnd_s {scr : pX} {mi pc pc1 : Nat} {L rest : List Value} {v : Value} {w1 : pW} : p_bnd scr mi pc pc1 L rest (some (.inl (some v), w1, 0)) = p_ev scr mi pc1 L (v :: rest) w1 := p_map0 _
theorem p_bnd_v {scr : pX} {mi pc pc1 : Nat} {L rest : List Value} {w1 : pW} : p_bnd scr mi pc pc1 L rest (some (.inl none, w1, 0)) = p_ev scr mi pc1 L rest w1 := p_map0 _
theorem p_bnd_x {scr : pX} {mi pc pc1 E k1 : Nat} {L rest : List Value} {w1 : pW} (h : p_hd mi pc E = none) (h2 : p_hh mi = []) : p_bnd scr mi pc pc1 L rest (some (.inr (.inl E), w1, k1)) = some (.inr (.inl E), w1, k1) := by
  simp only [p_bnd, h, h2, if_pos]
theorem p_bnd_h {scr : pX} {mi pc pc1 E k1 : Nat} {L rest : List Value} {w1 : pW} {q : Nat × Nat × Int32} (h : p_hd mi pc E = some q) : p_bnd scr mi pc pc1 L rest (some (.inr (.inl E), w1, k1)) = some (.inl (some (.int q.2.2)), w1, k1) := by
  simp only [p_bnd, h]
theorem p_bnd_ite {scr : pX} {mi pc pc1 : Nat} {L rest : List Value} {c : Prop} [Decidable c] {a b : Option pR} : p_bnd scr mi pc pc1 L rest (if c then a else b) = if c then p_bnd scr mi pc pc1 L rest a else p_bnd scr mi pc pc1 L rest b := by
  split <;> rfl
/-! the rules, one for each kind of instruction -/
section Rules
variable {scr : pX} {mi pc : Nat} {L st : List Value} {w : pW}
theorem p_r {ins : Instr} {pc1 : Nat} {L1 st1 : List Value} {w1 : pW} (h : p_at mi pc = some ins) (h2 : p_ex scr mi pc ins L st w = some (.inr (.inl (pc1, L1, st1, w1)))) : p_ev scr mi pc L st w = p_ev scr mi pc1 L1 st1 w1 :=
  p_ev_jump (by simp only [p_stp, h]; exact h2)
theorem p_rd {ins : Instr} {r : pR} (h : p_at mi pc = some ins) (h2 : p_ex scr mi pc ins L st w = some (.inl r)) : p_ev scr mi pc L st w = some r :=
  p_ev_done (by simp only [p_stp, h]; exact h2)
theorem p_rc {ins : Instr} {mj : Nat} {as rest : List Value} (h : p_at mi pc = some ins) (h2 : p_ex scr mi pc ins L st w = some (.inr (.inr (mj, as, rest)))) : p_ev scr mi pc L st w = p_bnd scr mi pc (pc + 3) L rest (p_ev none mj 0 (p_ent as (p_ml mj)) [] w) :=
  p_ev_call (by simp only [p_stp, h]; exact h2)
theorem p_rb {ins : Instr} {c : Prop} [Decidable c] {t f : Nat} {s : List Value} (h : p_at mi pc = some ins) (h2 : p_ex scr mi pc ins L st w = p_J (if decide c = true then t else f) L s w) : p_ev scr mi pc L st w = if c then p_ev scr mi t L s w else p_ev scr mi f L s w := by
  have h3 := p_r h h2
  rw [h3]
  by_cases hc : c
  · simp [hc]
  · simp [hc]
theorem p_ite_t {c : Prop} [Decidable c] {a b : Option pS} (h : c) (e : a = b) {d : Option pS} : (if c then a else d) = b := by rw [if_pos h]; exact e
theorem p_rgf {i ci k o : Nat} {fs : List (Option Nat)} {f : Option Nat} {s : List Value} (h : p_at mi pc = some (.getfield i)) (hf : p_fld (p_own mi) i = some (ci, k)) (ho : p_ob o = some (.inr (ci, fs))) (hk : fs[k]? = some f) : p_ev scr mi pc L (.ref o :: s) w = p_ev scr mi (pc + 3) L (p_fv w o k f :: s) w :=
  p_r h (by simp only [p_ex, p_gf, hf, ho, hk, if_pos]; rfl)
theorem p_rpf {i ci k o : Nat} {fs : List (Option Nat)} {v : Int32} {s : List Value} (h : p_at mi pc = some (.putfield i)) (hf : p_fld (p_own mi) i = some (ci, k)) (ho : p_ob o = some (.inr (ci, fs))) (hk : fs[k]? = some none) : p_ev scr mi pc L (.int v :: .ref o :: s) w = p_ev scr mi (pc + 3) L s (p_u w.1 o k v, w.2) :=
  p_r h (by simp only [p_ex, p_pf, hf, ho, hk, if_pos]; rfl)
theorem p_riald {o n : Nat} {i : Int32} {s : List Value} (h : p_at mi pc = some .iaload) (ho : p_ob o = some (.inl (1, n))) (hi : p_out i n = false) : p_ev scr mi pc L (.int i :: .ref o :: s) w = p_ev scr mi (pc + 1) L (.int (w.2.2 o i.toNatClampNeg) :: s) w :=
  p_r h (by simp only [p_ex, p_ald, ho, hi, and_self, if_pos]; rfl)
theorem p_rsld {n : Nat} {xs : Nat → Int32} {i : Int32} {s : List Value} (h : p_at mi pc = some .iaload) (hi : p_out i n = false) : p_ev (some (n, xs)) mi pc L (.int i :: .ref 999 :: s) w = p_ev (some (n, xs)) mi (pc + 1) L (.int (xs i.toNatClampNeg) :: s) w :=
  p_r h (by simp only [p_ex, p_ald, show p_ob 999 = none from rfl, hi, and_self, if_pos]; rfl)
theorem p_rlald {o n : Nat} {i : Int32} {s : List Value} (h : p_at mi pc = some .laload) (ho : p_ob o = some (.inl (2, n))) (hi : p_out i n = false) : p_ev scr mi pc L (.int i :: .ref o :: s) w = p_ev scr mi (pc + 1) L (.long (w.2.1 o i.toNatClampNeg) :: s) w :=
  p_r h (by simp only [p_ex, p_lald, ho, hi, and_self, if_pos]; rfl)
theorem p_rbald {o t n : Nat} {i : Int32} {s : List Value} (h : p_at mi pc = some .baload) (ho : p_ob o = some (.inl (t, n))) (ht : t = 0 ∨ t = 3) (hi : p_out i n = false) : p_ev scr mi pc L (.int i :: .ref o :: s) w = p_ev scr mi (pc + 1) L (.int (w.2.2 o i.toNatClampNeg) :: s) w :=
  p_r h (by simp only [p_ex, p_bald, ho, hi, ht, and_self, if_pos]; rfl)
theorem p_rbast {o t n : Nat} {i x : Int32} {s : List Value} (h : p_at mi pc = some .bastore) (ho : p_ob o = some (.inl (t, n))) (ht : t = 0 ∨ t = 3) (hi : p_out i n = false) : p_ev scr mi pc L (.int x :: .int i :: .ref o :: s) w = p_ev scr mi (pc + 1) L s (w.1, w.2.1, p_u w.2.2 o i.toNatClampNeg (vp_nar (p_bty t) x)) :=
  p_r h (by simp only [p_ex, p_bast, ho, hi, ht, and_self, if_pos]; rfl)
theorem p_riast {o n : Nat} {i x : Int32} {s : List Value} (h : p_at mi pc = some .iastore) (ho : p_ob o = some (.inl (1, n))) (hi : p_out i n = false) : p_ev scr mi pc L (.int x :: .int i :: .ref o :: s) w = p_ev scr mi (pc + 1) L s (w.1, w.2.1, p_u w.2.2 o i.toNatClampNeg x) :=
  p_r h (by simp only [p_ex, p_iast, ho, hi, and_self, if_pos]; rfl)
theorem p_rlast {o n : Nat} {i : Int32} {x : Int64} {s : List Value} (h : p_at mi pc = some .lastore) (ho : p_ob o = some (.inl (2, n))) (hi : p_out i n = false) : p_ev scr mi pc L (.long x :: .int i :: .ref o :: s) w = p_ev scr mi (pc + 1) L s (w.1, p_u w.2.1 o i.toNatClampNeg x, w.2.2) :=
  p_r h (by simp only [p_ex, p_last, ho, hi, and_self, if_pos]; rfl)
theorem p_ralen {o t n : Nat} {s : List Value} (h : p_at mi pc = some .arraylength) (ho : p_ob o = some (.inl (t, n))) : p_ev scr mi pc L (.ref o :: s) w = p_ev scr mi (pc + 1) L (.int (Int32.ofNat n) :: s) w :=
  p_r h (by simp only [p_ex, p_alen, ho]; rfl)
theorem p_rslen {n : Nat} {xs : Nat → Int32} {s : List Value} (h : p_at mi pc = some .arraylength) : p_ev (some (n, xs)) mi pc L (.ref 999 :: s) w = p_ev (some (n, xs)) mi (pc + 1) L (.int (Int32.ofNat n) :: s) w :=
  p_r h (by simp only [p_ex, p_alen, show p_ob 999 = none from rfl, if_pos]; rfl)
theorem p_ridiv {x y : Int32} {s : List Value} (h : p_at mi pc = some .idiv) (hy : ¬ y = 0) : p_ev scr mi pc L (.int y :: .int x :: s) w = p_ev scr mi (pc + 1) L (.int (x / y) :: s) w :=
  p_r h (by simp only [p_ex, p_i2z, hy, if_false]; rfl)
theorem p_rirem {x y : Int32} {s : List Value} (h : p_at mi pc = some .irem) (hy : ¬ y = 0) : p_ev scr mi pc L (.int y :: .int x :: s) w = p_ev scr mi (pc + 1) L (.int (x - x / y * y) :: s) w :=
  p_r h (by simp only [p_ex, p_i2z, hy, if_false]; rfl)
theorem p_rldiv {x y : Int64} {s : List Value} (h : p_at mi pc = some .ldiv) (hy : ¬ y = 0) : p_ev scr mi pc L (.long y :: .long x :: s) w = p_ev scr mi (pc + 1) L (.long (x / y) :: s) w :=
  p_r h (by simp only [p_ex, p_l2z, hy, if_false]; rfl)
theorem p_rlrem {x y : Int64} {s : List Value} (h : p_at mi pc = some .lrem) (hy : ¬ y = 0) : p_ev scr mi pc L (.long y :: .long x :: s) w = p_ev scr mi (pc + 1) L (.long (x - x / y * y) :: s) w :=
  p_r h (by simp only [p_ex, p_l2z, hy, if_false]; rfl)
theorem p_rzret {v : Int32} (h : p_at mi pc = some .ireturn) (hr : p_rt mi = some .boolean) (hv : narrow .boolean (.int v) = .int v) : p_ev scr mi pc L [.int v] w = some (.inl (some (.int v)), w, 0) :=
  p_rd h (by simp only [p_ex, p_irt, hr, hv, if_pos]; rfl)
end Rules
section Rules2
variable {scr : pX} {mi pc : Nat} {L st : List Value} {w : pW}
theorem p_rabs {i n : Nat} {x : Int64} {s : List Value} (h : p_at mi pc = some (.invokestatic i)) (hv : p_inv (p_own mi) i = some (0, 0, n)) (hc : p_cs s ≤ 8) (hm : p_mok mi = true) : p_ev scr mi pc L (.long x :: s) w = p_ev scr mi (pc + 3) L (.long (p_abs x) :: s) w :=
  p_r h (by simp only [p_ex, p_iv, hv, hc, hm, and_self, if_pos]; rfl)
theorem p_rmax {i n : Nat} {x y : Int64} {s : List Value} (h : p_at mi pc = some (.invokestatic i)) (hv : p_inv (p_own mi) i = some (0, 1, n)) (hc : p_cs s ≤ 8) (hm : p_mok mi = true) : p_ev scr mi pc L (.long y :: .long x :: s) w = p_ev scr mi (pc + 3) L (.long (p_max x y) :: s) w :=
  p_r h (by simp only [p_ex, p_iv, hv, hc, hm, and_self, if_pos]; rfl)
theorem p_rmin {i n : Nat} {x y : Int64} {s : List Value} (h : p_at mi pc = some (.invokestatic i)) (hv : p_inv (p_own mi) i = some (0, 2, n)) (hc : p_cs s ≤ 8) (hm : p_mok mi = true) : p_ev scr mi pc L (.long y :: .long x :: s) w = p_ev scr mi (pc + 3) L (.long (p_min x y) :: s) w :=
  p_r h (by simp only [p_ex, p_iv, hv, hc, hm, and_self, if_pos]; rfl)
theorem p_rcs {i mj n nl : Nat} {as rest E : List Value} (h : p_at mi pc = some (.invokestatic i)) (hv : p_inv (p_own mi) i = some (1, mj, n)) (hc : (p_fits mi mj && (p_virt mj == false) && (p_ml mj == nl)) = true) (ht : (st.take n).reverse = as) (hd : st.drop n = rest) (hn : n ≤ st.length) (hcs : p_cs rest ≤ 8) (hE : p_cs as ≤ nl) (he : p_ent as nl = E) : p_ev scr mi pc L st w = p_bnd scr mi pc (pc + 3) L rest (p_ev none mj 0 E [] w) := by
  simp only [Bool.and_eq_true, beq_iff_eq] at hc
  obtain ⟨⟨h1, h2⟩, h3⟩ := hc
  have h4 := p_rc (L := L) (st := st) (w := w) (scr := scr) (as := as) (rest := rest) (mj := mj) h (by simp only [p_ex, p_iv, hv]; rw [hd, ht]; simp [hn, hcs, h1, h2, h3, hE])
  rw [h4, h3, he]
theorem p_rcv {i mj n nl o : Nat} {as rest E : List Value} {fs : List (Option Nat)} (h : p_at mi pc = some (.invokevirtual i)) (hv : p_inv (p_own mi) i = some (1, mj, n)) (hc : (p_fits mi mj && (p_virt mj == true) && (p_ml mj == nl)) = true) (ho : p_ob o = some (.inr (p_own mj, fs))) (ht : (st.take n).reverse = .ref o :: as) (hd : st.drop n = rest) (hn : n ≤ st.length) (hcs : p_cs rest ≤ 8) (hE : p_cs (.ref o :: as) ≤ nl) (he : p_ent (.ref o :: as) nl = E) : p_ev scr mi pc L st w = p_bnd scr mi pc (pc + 3) L rest (p_ev none mj 0 E [] w) := by
  simp only [Bool.and_eq_true, beq_iff_eq] at hc
  obtain ⟨⟨h1, h2⟩, h3⟩ := hc
  have h4 := p_rc (L := L) (st := st) (w := w) (scr := scr) (as := .ref o :: as) (rest := rest) (mj := mj) h (by simp only [p_ex, p_iv, hv]; rw [hd, ht]; simp [hn, hcs, h1, h2, ho, h3, hE])
  rw [h4, h3, he]
theorem p_riret {v : Int32} (h : p_at mi pc = some .ireturn) (hr : p_rt mi = some .int) : p_ev scr mi pc L [.int v] w = some (.inl (some (.int v)), w, 0) :=
  p_rd h (by simp only [p_ex, p_irt, hr]; rfl)
theorem p_rlret {v : Int64} (h : p_at mi pc = some .lreturn) (hr : p_rt mi = some .long) : p_ev scr mi pc L [.long v] w = some (.inl (some (.long v)), w, 0) :=
  p_rd h (by simp only [p_ex, p_lrt, hr, if_pos]; rfl)
theorem p_rvret (h : p_at mi pc = some .return_) (hr : p_rt mi = none) : p_ev scr mi pc L [] w = some (.inl none, w, 0) :=
  p_rd h (by simp only [p_ex, p_vrt, hr, if_pos]; rfl)
theorem p_rnew {ik is ic E : Nat} (h : p_at mi pc = some (.new ik)) (h3 : p_at mi (pc + 3) = some .dup) (h4 : p_at mi (pc + 4) = some (.ldc is)) (h6 : p_at mi (pc + 6) = some (.invokespecial ic)) (h9 : p_at mi (pc + 9) = some .athrow) (ht : p_thr (p_own mi) ik is ic = some E) (hr : 6 ≤ p_rF mi ∧ 82 ≤ p_rL mi) : p_ev scr mi pc L [] w = some (.inr (.inl E), w, 1) :=
  p_rd h (by simp only [p_ex, p_nw, h3, h4, h6, h9, ht, hr, and_self, if_pos]; rfl)
theorem p_rstop {off : Int} (h : p_at mi pc = some (.goto off)) (hb : p_bo pc off = true) (hm : mi = p_lawI ∧ pc = p_lawG) : p_ev scr mi pc L [] w = some (.inr (.inr L), w, 0) :=
  by
  obtain ⟨rfl, rfl⟩ := hm
  exact p_rd h (by simp only [p_ex, p_gt, hb, and_self, if_pos]; rfl)
theorem p_rgo {off : Int} {t : Nat} (h : p_at mi pc = some (.goto off)) (ht : (p_bo pc off && (p_tg pc off == t) && !(decide (mi = p_lawI) && decide (pc = p_lawG))) = true) : p_ev scr mi pc L st w = p_ev scr mi t L st w := by
  simp only [Bool.and_eq_true, beq_iff_eq, Bool.not_eq_true', Bool.and_eq_false_iff, decide_eq_false_iff_not] at ht
  obtain ⟨⟨h1, h2⟩, h3⟩ := ht
  exact p_r h (by
    simp only [p_ex, p_gt, h1, if_pos]
    rw [if_neg (by rintro ⟨a, b⟩; rcases h3 with h3 | h3; exact h3 a; exact h3 b), h2]
    rfl)
theorem p_rb2 {c : Int32 → Int32 → Bool} {off : Int} {t f : Nat} {x y : Int32} {s : List Value} {ins : Instr} (h : p_at mi pc = some ins) (ht : (p_bo pc off && (p_tg pc off == t)) = true) (hf : pc + 3 = f) (h2 : p_ex scr mi pc ins L (.int y :: .int x :: s) w = p_b2 c pc off L (.int y :: .int x :: s) w) {P : Prop} [Decidable P] (hP : c x y = decide P) : p_ev scr mi pc L (.int y :: .int x :: s) w = if P then p_ev scr mi t L s w else p_ev scr mi f L s w := by
  simp only [Bool.and_eq_true, beq_iff_eq] at ht
  refine p_rb (ins := ins) h ?_
  rw [h2, p_b2, if_pos ht.1, ht.2, hf, hP]
theorem p_rb1 {c : Int32 → Bool} {off : Int} {t f : Nat} {x : Int32} {s : List Value} {ins : Instr} (h : p_at mi pc = some ins) (ht : (p_bo pc off && (p_tg pc off == t)) = true) (hf : pc + 3 = f) (h2 : p_ex scr mi pc ins L (.int x :: s) w = p_b1 c pc off L (.int x :: s) w) {P : Prop} [Decidable P] (hP : c x = decide P) : p_ev scr mi pc L (.int x :: s) w = if P then p_ev scr mi t L s w else p_ev scr mi f L s w := by
  simp only [Bool.and_eq_true, beq_iff_eq] at ht
  refine p_rb (ins := ins) h ?_
  rw [h2, p_b1, if_pos ht.1, ht.2, hf, hP]
theorem p_rswi {d lo hi off : Int} {os : Array Int} {t : Nat} {x : Int32} (h : p_at mi pc = some (.tableswitch d lo hi os)) (h1 : ¬ (x.toInt < lo ∨ hi < x.toInt)) (h2 : os[(x.toInt - lo).toNat]? = some off) (ht : (p_bo pc off && (p_tg pc off == t)) = true) : p_ev scr mi pc L [.int x] w = p_ev scr mi t L [] w := by
  simp only [Bool.and_eq_true, beq_iff_eq] at ht
  exact p_r h (by simp only [p_ex, p_swt, h2, ht]; rw [if_neg h1]; rfl)
theorem p_rswo {d lo hi : Int} {os : Array Int} {t : Nat} {x : Int32} (h : p_at mi pc = some (.tableswitch d lo hi os)) (h1 : x.toInt < lo ∨ hi < x.toInt) (ht : (p_bo pc d && (p_tg pc d == t)) = true) : p_ev scr mi pc L [.int x] w = p_ev scr mi t L [] w := by
  simp only [Bool.and_eq_true, beq_iff_eq] at ht
  exact p_r h (by simp only [p_ex, p_swt, ht]; rw [if_pos h1]; rfl)
theorem p_rldcI {i : Nat} {v : Int32} (h : p_at mi pc = some (.ldc i)) (hc : p_cI (p_own mi) i = some v) : p_ev scr mi pc L st w = p_ev scr mi (pc + 2) L (.int v :: st) w :=
  p_r h (by simp only [p_ex, hc]; rfl)
theorem p_rldcJ {i : Nat} {v : Int64} (h : p_at mi pc = some (.ldc2_w i)) (hc : p_cJ (p_own mi) i = some v) : p_ev scr mi pc L st w = p_ev scr mi (pc + 3) L (.long v :: st) w :=
  p_r h (by simp only [p_ex, hc]; rfl)
end Rules2
/-- a row object: its cells are the array 7 behind it -/
def p_rw (r : Nat) : Prop := p_ob r = some (.inr (2, [some (r + 7)])) ∧ p_ob (r + 7) = some (.inl (2, 32))
def p_lg (a : Nat) : Prop := p_ob a = some (.inl (2, 512))
end
section
/-! PICTURES: how the pure interpreter's state lies in the heap and in the locals -/
def p_cv (ad : Nat → Nat) (v : Value) : Value := match v with
  | .ref k => .ref (ad k)
  | x => x
def p_fl (ad : Nat → Nat) (w : pW) (o : Nat) : Nat → List (Option Nat) → List Value
  | _, [] => []
  | k, f :: r => p_cv ad (p_fv w o k f) :: p_fl ad w o (k + 1) r
def p_cell (ad : Nat → Nat) (ty : Nat → ClassId) (w : pW) (o : Nat) : va_E := match p_ob o with
  | some (.inl (t, n)) => .inl (ty t, n, if t = 2 then .inr (.inl (w.2.1 o)) else .inl (w.2.2 o))
  | some (.inr (c, fs)) => .inr (c, p_fl ad w o 0 fs)
  | none => .inr (0, [])
def p_ws (ad : Nat → Nat) (ty : Nat → ClassId) (w : pW) : va_W := (List.range p_M).map fun o => (ad o, p_cell ad ty w o)
def p_tys (ty : Nat → ClassId) : List (ClassId × FieldType) := [(ty 0, .byte), (ty 1, .int), (ty 2, .long), (ty 3, .boolean)]
theorem p_ob_lt {o : Nat} {x : (Nat × Nat) ⊕ (Nat × List (Option Nat))} (h : p_ob o = some x) : o < p_M := (List.getElem?_eq_some_iff.mp h).1
theorem p_ws_get {ad : Nat → Nat} {ty : Nat → ClassId} {w : pW} {o : Nat} (h : o < p_M) : (p_ws ad ty w)[o]? = some (ad o, p_cell ad ty w o) := by
  simp only [p_ws, List.getElem?_map, List.getElem?_range h, Option.map_some]
theorem p_ws_len {ad : Nat → Nat} {ty : Nat → ClassId} {w : pW} : (p_ws ad ty w).length = p_M := by simp [p_ws]
theorem p_fl_get {ad : Nat → Nat} {w : pW} {o : Nat} : ∀ (fs : List (Option Nat)) (k0 k : Nat), (p_fl ad w o k0 fs)[k]? = fs[k]?.map (fun f => p_cv ad (p_fv w o (k0 + k) f))
  | [], k0, k => by simp [p_fl]
  | f :: r, k0, 0 => by simp [p_fl]
  | f :: r, k0, k + 1 => by
    simp only [p_fl, List.getElem?_cons_succ]
    rw [p_fl_get r (k0 + 1) k, show k0 + 1 + k = k0 + (k + 1) by omega]
theorem p_fl_len {ad : Nat → Nat} {w : pW} {o : Nat} : ∀ (fs : List (Option Nat)) (k0 : Nat), (p_fl ad w o k0 fs).length = fs.length
  | [], k0 => rfl
  | f :: r, k0 => by simp [p_fl, p_fl_len r (k0 + 1)]
theorem p_fl_cg {ad : Nat → Nat} {w w1 : pW} {o : Nat} (h : w1.1 o = w.1 o) : ∀ (fs : List (Option Nat)) (k0 : Nat), p_fl ad w1 o k0 fs = p_fl ad w o k0 fs
  | [], k0 => rfl
  | f :: r, k0 => by
    simp only [p_fl]
    rw [p_fl_cg h r (k0 + 1)]
    cases f <;> simp [p_fv, h]
theorem p_cell_cg {ad : Nat → Nat} {ty : Nat → ClassId} {w w1 : pW} {o : Nat} (h1 : w1.1 o = w.1 o) (h2 : w1.2.1 o = w.2.1 o) (h3 : w1.2.2 o = w.2.2 o) : p_cell ad ty w1 o = p_cell ad ty w o := by
  unfold p_cell
  split
  · rw [h2, h3]
  · rw [p_fl_cg h1]
  · rfl
theorem p_u_ne {α : Type} {f : Nat → Nat → α} {o k i : Nat} {v : α} (h : i ≠ o) : p_u f o k v i = f i := by
  funext b; simp [p_u, h]
theorem p_u_eqL {f : Nat → Nat → Int64} {o k : Nat} {v : Int64} : p_u f o k v o = vp_updL (f o) k v := by
  funext b; simp [p_u, vp_updL]
theorem p_u_eqI {f : Nat → Nat → Int32} {o k : Nat} {v : Int32} : p_u f o k v o = upd (f o) k v := by
  funext b; simp [p_u, upd]
theorem p_ws_set {ad : Nat → Nat} {ty : Nat → ClassId} {w w1 : pW} {o : Nat} {e : va_E} (ho : o < p_M) (h1 : ∀ i, i ≠ o → p_cell ad ty w1 i = p_cell ad ty w i) (h2 : p_cell ad ty w1 o = e) : (p_ws ad ty w).set o (ad o, e) = p_ws ad ty w1 := by
  apply List.ext_getElem?
  intro i
  by_cases hi : i < p_M
  · rw [p_ws_get hi, List.getElem?_set]
    by_cases hio : o = i
    · subst hio
      rw [if_pos rfl, if_pos (by rw [p_ws_len]; exact hi), h2]
    · rw [if_neg hio, p_ws_get hi, h1 i (fun z => hio z.symm)]
  · rw [List.getElem?_eq_none (by rw [List.length_set, p_ws_len]; omega), List.getElem?_eq_none (by rw [p_ws_len]; omega)]
theorem p_wsD {A : Nat → Prop} {ad : Nat → Nat} {ty : Nat → ClassId} {w w1 : pW} (h : va_D A (p_ws ad ty w)) : va_D A (p_ws ad ty w1) := by
  have key : ∀ (k : Nat) (q : Nat × va_E), (p_ws ad ty w1)[k]? = some q → ∃ q0, (p_ws ad ty w)[k]? = some q0 ∧ q0.1 = q.1 := by
    intro k q hk
    have hl : k < p_M := by rw [← p_ws_len (ad := ad) (ty := ty) (w := w1)]; exact (List.getElem?_eq_some_iff.mp hk).1
    rw [p_ws_get hl] at hk
    cases hk
    exact ⟨_, p_ws_get hl, rfl⟩
  refine ⟨fun i j p q hp hq hpq => ?_, fun k q hk => ?_⟩
  · obtain ⟨p0, a1, a2⟩ := key i p hp
    obtain ⟨q0, b1, b2⟩ := key j q hq
    exact h.1 i j p0 q0 a1 b1 (a2.trans (hpq.trans b2.symm))
  · obtain ⟨q0, a1, a2⟩ := key k q hk
    rw [← a2]
    exact h.2 k q0 a1
theorem p_wsA {ad : Nat → Nat} {ty : Nat → ClassId} {w w1 : pW} {sz : Nat} {q : Nat} (h : va_A (p_ws ad ty w) sz q) : va_A (p_ws ad ty w1) sz q := by
  rcases h with ⟨k, e, h⟩ | h
  · have hl : k < p_M := by rw [← p_ws_len (ad := ad) (ty := ty) (w := w)]; exact (List.getElem?_eq_some_iff.mp h).1
    rw [p_ws_get hl] at h
    cases h
    exact Or.inl ⟨k, _, p_ws_get hl⟩
  · exact Or.inr h
theorem p_w_last {ad : Nat → Nat} {ty : Nat → ClassId} {w : pW} {o n k : Nat} {x : Int64} (ho : p_ob o = some (.inl (2, n))) : (p_ws ad ty w).set o (ad o, .inl (ty 2, n, .inr (.inl (vp_updL (w.2.1 o) k x)))) = p_ws ad ty (w.1, p_u w.2.1 o k x, w.2.2) :=
  p_ws_set (p_ob_lt ho) (fun i hi => p_cell_cg rfl (p_u_ne hi) rfl) (by unfold p_cell; rw [ho]; simp [p_u_eqL])
theorem p_w_iast {ad : Nat → Nat} {ty : Nat → ClassId} {w : pW} {o t n k : Nat} {x : Int32} (ho : p_ob o = some (.inl (t, n))) (ht : t ≠ 2) : (p_ws ad ty w).set o (ad o, .inl (ty t, n, .inl (upd (w.2.2 o) k x))) = p_ws ad ty (w.1, w.2.1, p_u w.2.2 o k x) :=
  p_ws_set (p_ob_lt ho) (fun i hi => p_cell_cg rfl rfl (p_u_ne hi)) (by unfold p_cell; rw [ho]; simp [p_u_eqI, ht])
theorem p_fl_out {ad : Nat → Nat} {w : pW} {o k : Nat} {v : Int32} : ∀ (r : List (Option Nat)) (k1 : Nat), k < k1 → p_fl ad (p_u w.1 o k v, w.2) o k1 r = p_fl ad w o k1 r
  | [], k1, _ => rfl
  | g :: r, k1, h1 => by
    simp only [p_fl]
    rw [p_fl_out (k := k) r (k1 + 1) (by omega)]
    cases g with
    | none =>
      have e : ¬ (True ∧ k1 = k) := by omega
      simp only [p_fv, p_u]
      rw [if_neg e]
    | some t => rfl
theorem p_fl_set {ad : Nat → Nat} {w : pW} {o k : Nat} {v : Int32} : ∀ (fs : List (Option Nat)) (k0 j : Nat), k0 + j = k → fs[j]? = some none → (p_fl ad w o k0 fs).set j (.int v) = p_fl ad (p_u w.1 o k v, w.2) o k0 fs
  | [], k0, j, _, h => by simp at h
  | f :: r, k0, 0, hk, h => by
    simp at h
    subst h
    simp only [p_fl, List.set_cons_zero]
    rw [p_fl_out r (k0 + 1) (by omega)]
    have : k0 = k := by omega
    subst this
    simp [p_fv, p_u, p_cv]
  | f :: r, k0, j + 1, hk, h => by
    simp at h
    simp only [p_fl, List.set_cons_succ]
    rw [p_fl_set (k := k) (v := v) r (k0 + 1) j (by omega) h]
    cases f with
    | none =>
      have e : ¬ (True ∧ k0 = k) := by omega
      simp only [p_fv, p_u]
      rw [if_neg e]
    | some t => rfl
theorem p_w_putf {ad : Nat → Nat} {ty : Nat → ClassId} {w : pW} {o c k : Nat} {fs : List (Option Nat)} {v : Int32} (ho : p_ob o = some (.inr (c, fs))) (hk : fs[k]? = some none) : (p_ws ad ty w).set o (ad o, .inr (c, (p_fl ad w o 0 fs).set k (.int v))) = p_ws ad ty (p_u w.1 o k v, w.2) :=
  p_ws_set (p_ob_lt ho) (fun i hi => p_cell_cg (p_u_ne hi) rfl rfl) (by unfold p_cell; rw [ho]; simp only []; rw [p_fl_set (k := k) (v := v) fs 0 k (by omega) hk])
/-! the locals -/
def p_lh (ad : Nat → Nat) (ls : Array Slot) (n : Nat) (L : List Value) : Prop := L.length = n ∧ ls.size = n ∧ lv_wf ls ∧ ∀ (i : Nat) (v : Value), L[i]? = some v → v ≠ p_U → ls[i]? = some (.val (p_cv ad v))
def p_lv (ad : Nat → Nat) (L : List Value) : List (Nat × Value) := (List.range L.length).filterMap fun i => L[i]?.bind fun v => if v = p_U then none else some (i, p_cv ad v)
theorem p_lv_mem {ad : Nat → Nat} {L : List Value} {q : Nat × Value} : q ∈ p_lv ad L ↔ ∃ v, L[q.1]? = some v ∧ v ≠ p_U ∧ q.2 = p_cv ad v := by
  unfold p_lv
  rw [List.mem_filterMap]
  constructor
  · rintro ⟨i, -, h⟩
    rw [Option.bind_eq_some_iff] at h
    obtain ⟨v, h1, h2⟩ := h
    split at h2
    · simp at h2
    · next hv => cases h2; exact ⟨v, h1, hv, rfl⟩
  · rintro ⟨v, h1, h2, h3⟩
    refine ⟨q.1, List.mem_range.mpr (List.getElem?_eq_some_iff.mp h1).1, ?_⟩
    rw [h1]
    simp only [Option.bind_some]
    rw [if_neg h2, ← h3]
theorem p_lh_at {ad : Nat → Nat} {ls : Array Slot} {n : Nat} {L : List Value} (h : p_lh ad ls n L) {i : Nat} {v : Value} (hv : L[i]? = some v) (hu : v ≠ p_U) : ls[i]? = some (.val (p_cv ad v)) := h.2.2.2 i v hv hu
theorem p_lh_has {ad : Nat → Nat} {ls : Array Slot} {n : Nat} {L : List Value} (h : p_lh ad ls n L) : lv_has ls n (p_lv ad L) := by
  refine ⟨h.2.1, h.2.2.1, fun q hq => ?_⟩
  obtain ⟨v, h1, h2, h3⟩ := p_lv_mem.mp hq
  rw [h3]
  exact h.2.2.2 _ _ h1 h2
theorem p_has_lh {ad : Nat → Nat} {ls : Array Slot} {n : Nat} {L : List Value} {lv : List (Nat × Value)} (hL : L.length = n) (h : lv_has ls n lv) (hm : ∀ (i : Nat) (v : Value), L[i]? = some v → v ≠ p_U → (i, p_cv ad v) ∈ lv) : p_lh ad ls n L :=
  ⟨hL, h.1, h.2.1, fun i v h1 h2 => h.2.2 _ (hm i v h1 h2)⟩
theorem p_cv_cat {ad : Nat → Nat} {v : Value} : (p_cv ad v).category = v.category := by cases v <;> rfl
theorem p_st_len {L : List Value} {k : Nat} {v : Value} : (p_st L k v).length = L.length := by
  unfold p_st
  rw [List.length_set]
  split
  · rfl
  · split
    · split <;> simp
    · rfl
/-- behind a store: the place itself, or what was there; a long just ahead of the place is gone -/
theorem p_st_get {L : List Value} {k : Nat} {v : Value} {j : Nat} {u : Value} (h : (p_st L k v)[j]? = some u) (hu : u ≠ p_U) : (j = k ∧ u = v) ∨ (j ≠ k ∧ L[j]? = some u ∧ ¬ (j + 1 = k ∧ u.category = 2)) := by
  by_cases hj : j = k
  · left
    refine ⟨hj, ?_⟩
    subst hj
    have hl := (List.getElem?_eq_some_iff.mp h).1
    rw [p_st_len] at hl
    unfold p_st at h
    rw [List.getElem?_set_self (by
      split
      · exact hl
      · split
        · split
          · rw [List.length_set]; exact hl
          · exact hl
        · exact hl)] at h
    exact (Option.some.inj h).symm
  · right
    refine ⟨hj, ?_⟩
    unfold p_st at h
    rw [List.getElem?_set_ne (fun z => hj z.symm)] at h
    cases k with
    | zero => exact ⟨h, fun z => by omega⟩
    | succ i =>
      dsimp only at h
      cases hx : L[i]? with
      | none =>
        rw [hx] at h
        refine ⟨h, fun z => ?_⟩
        have : j = i := by omega
        subst this
        rw [hx] at h
        cases h
      | some x =>
        rw [hx] at h
        dsimp only at h
        by_cases hc : x.category = 2
        · rw [if_pos hc] at h
          by_cases hji : j = i
          · subst hji
            rw [List.getElem?_set_self (List.getElem?_eq_some_iff.mp hx).1] at h
            exact absurd (Option.some.inj h).symm hu
          · rw [List.getElem?_set_ne (fun z => hji z.symm)] at h
            exact ⟨h, fun z => hji (by omega)⟩
        · rw [if_neg hc] at h
          refine ⟨h, fun z => ?_⟩
          have : j = i := by omega
          subst this
          rw [hx] at h
          cases h
          exact hc z.2
theorem p_lh_stI {ad : Nat → Nat} {ls ls1 : Array Slot} {n i : Nat} {L : List Value} {x : Int32} (h : p_lh ad ls n L) (h1 : lv_has ls1 n ((i, Value.int x) :: (p_lv ad L).filter (fun q => !(q.1 == i) && !(q.1 + 1 == i && q.2.category == 2)))) : p_lh ad ls1 n (p_st L i (.int x)) := by
  refine p_has_lh (by rw [p_st_len]; exact h.1) h1 (fun j u hu hn => ?_)
  rcases p_st_get hu hn with ⟨rfl, rfl⟩ | ⟨a, b, d⟩
  · exact List.mem_cons_self
  · refine List.mem_cons_of_mem _ (List.mem_filter.mpr ⟨p_lv_mem.mpr ⟨u, b, hn, rfl⟩, ?_⟩)
    simp only [Bool.and_eq_true, Bool.not_eq_true', beq_eq_false_iff_ne, ne_eq, Bool.and_eq_false_iff, p_cv_cat]
    exact ⟨a, by by_cases z : j + 1 = i; exact Or.inr (fun y => d ⟨z, y⟩); exact Or.inl z⟩
theorem p_lh_stJ {ad : Nat → Nat} {ls ls1 : Array Slot} {n i : Nat} {L : List Value} {x : Int64} (h : p_lh ad ls n L) (h1 : lv_has ls1 n ((i, Value.long x) :: (p_lv ad L).filter (fun q => !(q.1 == i) && (!(q.1 == i + 1) && !(q.1 + 1 == i && q.2.category == 2))))) : p_lh ad ls1 n ((p_st L i (.long x)).set (i + 1) p_U) := by
  refine p_has_lh (by rw [List.length_set, p_st_len]; exact h.1) h1 (fun j u hu hn => ?_)
  by_cases hj : j = i + 1
  · subst hj
    have hl := (List.getElem?_eq_some_iff.mp hu).1
    rw [List.length_set] at hl
    rw [List.getElem?_set_self hl] at hu
    exact absurd (Option.some.inj hu).symm hn
  · rw [List.getElem?_set_ne (fun z => hj z.symm)] at hu
    rcases p_st_get hu hn with ⟨rfl, rfl⟩ | ⟨a, b, d⟩
    · exact List.mem_cons_self
    · refine List.mem_cons_of_mem _ (List.mem_filter.mpr ⟨p_lv_mem.mpr ⟨u, b, hn, rfl⟩, ?_⟩)
      simp only [Bool.and_eq_true, Bool.not_eq_true', beq_eq_false_iff_ne, ne_eq, Bool.and_eq_false_iff, p_cv_cat]
      exact ⟨a, hj, by by_cases z : j + 1 = i; exact Or.inr (fun y => d ⟨z, y⟩); exact Or.inl z⟩
theorem p_lh_set {ad : Nat → Nat} {ls ls1 : Array Slot} {n i : Nat} {L : List Value} {x0 x : Int32} (h : p_lh ad ls n L) (hx : L[i]? = some (.int x0)) (h1 : lv_has ls1 n ((i, Value.int x) :: (p_lv ad L).filter (fun q => !(q.1 == i) && !(q.1 + 1 == i && q.2.category == 2)))) : p_lh ad ls1 n (L.set i (.int x)) := by
  have h2 := h1.2.1
  refine p_has_lh (by rw [List.length_set]; exact h.1) h1 (fun j u hu hn => ?_)
  by_cases hj : j = i
  · subst hj
    rw [List.getElem?_set_self (List.getElem?_eq_some_iff.mp hx).1] at hu
    rw [← Option.some.inj hu]
    exact List.mem_cons_self
  · rw [List.getElem?_set_ne (fun z => hj z.symm)] at hu
    refine List.mem_cons_of_mem _ (List.mem_filter.mpr ⟨p_lv_mem.mpr ⟨u, hu, hn, rfl⟩, ?_⟩)
    simp only [Bool.and_eq_true, Bool.not_eq_true', beq_eq_false_iff_ne, ne_eq, Bool.and_eq_false_iff, p_cv_cat]
    refine ⟨hj, ?_⟩
    by_cases z : j + 1 = i
    · refine Or.inr (fun y => ?_)
      have e1 := h.2.2.2 _ _ hu hn
      have e2 := h.2.2.1.1 _ _ e1 (by rw [p_cv_cat]; exact y)
      have e3 := h.2.2.2 _ _ hx (by simp [p_U])
      rw [z, e3] at e2
      cases e2
    · exact Or.inl z
end
section
/-! what a step of the pure interpreter says, kind by kind -/
section Inv
variable {k pc pc1 pc2 o : Nat} {L L1 st st1 : List Value} {w w1 : pW}
theorem p_vJ (h : p_J pc L st w = some (.inr (.inl (pc1, L1, st1, w1)))) : pc1 = pc ∧ L1 = L ∧ st1 = st ∧ w1 = w := by
  simp only [p_J, Option.some.injEq, Sum.inr.injEq, Sum.inl.injEq, Prod.mk.injEq] at h
  exact ⟨h.1.symm, h.2.1.symm, h.2.2.1.symm, h.2.2.2.symm⟩
theorem p_vlI (h : p_lI k pc L st w = some (.inr (.inl (pc1, L1, st1, w1)))) : ∃ x, L[k]? = some (.int x) ∧ pc1 = pc ∧ L1 = L ∧ st1 = .int x :: st ∧ w1 = w := by
  unfold p_lI at h; split at h
  · next x hx => exact ⟨x, hx, p_vJ h⟩
  · simp at h
theorem p_vlJ (h : p_lJ k pc L st w = some (.inr (.inl (pc1, L1, st1, w1)))) : ∃ x, L[k]? = some (.long x) ∧ pc1 = pc ∧ L1 = L ∧ st1 = .long x :: st ∧ w1 = w := by
  unfold p_lJ at h; split at h
  · next x hx => exact ⟨x, hx, p_vJ h⟩
  · simp at h
theorem p_vlA (h : p_lA k pc L st w = some (.inr (.inl (pc1, L1, st1, w1)))) : ∃ x, L[k]? = some (.ref x) ∧ pc1 = pc ∧ L1 = L ∧ st1 = .ref x :: st ∧ w1 = w := by
  unfold p_lA at h; split at h
  · next x hx => exact ⟨x, hx, p_vJ h⟩
  · simp at h
theorem p_vsI (h : p_sI k pc L st w = some (.inr (.inl (pc1, L1, st1, w1)))) : ∃ x s, st = .int x :: s ∧ k < L.length ∧ pc1 = pc ∧ L1 = p_st L k (.int x) ∧ st1 = s ∧ w1 = w := by
  unfold p_sI at h; split at h
  · next x s => split at h
                · next hk => exact ⟨x, s, rfl, hk, p_vJ h⟩
                · simp at h
  · simp at h
theorem p_vsJ (h : p_sJ k pc L st w = some (.inr (.inl (pc1, L1, st1, w1)))) : ∃ x s, st = .long x :: s ∧ k + 1 < L.length ∧ pc1 = pc ∧ L1 = (p_st L k (.long x)).set (k + 1) p_U ∧ st1 = s ∧ w1 = w := by
  unfold p_sJ at h; split at h
  · next x s => split at h
                · next hk => exact ⟨x, s, rfl, hk, p_vJ h⟩
                · simp at h
  · simp at h
theorem p_vi1 {f : Int32 → Int32} (h : p_i1 f pc L st w = some (.inr (.inl (pc1, L1, st1, w1)))) : ∃ x s, st = .int x :: s ∧ pc1 = pc ∧ L1 = L ∧ st1 = .int (f x) :: s ∧ w1 = w := by
  unfold p_i1 at h; split at h
  · next x s => exact ⟨x, s, rfl, p_vJ h⟩
  · simp at h
theorem p_vi2 {f : Int32 → Int32 → Int32} (h : p_i2 f pc L st w = some (.inr (.inl (pc1, L1, st1, w1)))) : ∃ x y s, st = .int y :: .int x :: s ∧ pc1 = pc ∧ L1 = L ∧ st1 = .int (f x y) :: s ∧ w1 = w := by
  unfold p_i2 at h; split at h
  · next y x s => exact ⟨x, y, s, rfl, p_vJ h⟩
  · simp at h
theorem p_vi2z {f : Int32 → Int32 → Int32} (h : p_i2z f pc L st w = some (.inr (.inl (pc1, L1, st1, w1)))) : ∃ x y s, st = .int y :: .int x :: s ∧ ¬ y = 0 ∧ pc1 = pc ∧ L1 = L ∧ st1 = .int (f x y) :: s ∧ w1 = w := by
  unfold p_i2z at h; split at h
  · next y x s => split at h
                  · simp at h
                  · next hy => exact ⟨x, y, s, rfl, hy, p_vJ h⟩
  · simp at h
theorem p_vl1 {f : Int64 → Int64} (h : p_l1 f pc L st w = some (.inr (.inl (pc1, L1, st1, w1)))) : ∃ x s, st = .long x :: s ∧ pc1 = pc ∧ L1 = L ∧ st1 = .long (f x) :: s ∧ w1 = w := by
  unfold p_l1 at h; split at h
  · next x s => exact ⟨x, s, rfl, p_vJ h⟩
  · simp at h
theorem p_vl2 {f : Int64 → Int64 → Int64} (h : p_l2 f pc L st w = some (.inr (.inl (pc1, L1, st1, w1)))) : ∃ x y s, st = .long y :: .long x :: s ∧ pc1 = pc ∧ L1 = L ∧ st1 = .long (f x y) :: s ∧ w1 = w := by
  unfold p_l2 at h; split at h
  · next y x s => exact ⟨x, y, s, rfl, p_vJ h⟩
  · simp at h
theorem p_vl2z {f : Int64 → Int64 → Int64} (h : p_l2z f pc L st w = some (.inr (.inl (pc1, L1, st1, w1)))) : ∃ x y s, st = .long y :: .long x :: s ∧ ¬ y = 0 ∧ pc1 = pc ∧ L1 = L ∧ st1 = .long (f x y) :: s ∧ w1 = w := by
  unfold p_l2z at h; split at h
  · next y x s => split at h
                  · simp at h
                  · next hy => exact ⟨x, y, s, rfl, hy, p_vJ h⟩
  · simp at h
theorem p_vlsh {f : Int64 → Int32 → Int64} (h : p_lsh f pc L st w = some (.inr (.inl (pc1, L1, st1, w1)))) : ∃ x y s, st = .int y :: .long x :: s ∧ pc1 = pc ∧ L1 = L ∧ st1 = .long (f x y) :: s ∧ w1 = w := by
  unfold p_lsh at h; split at h
  · next y x s => exact ⟨x, y, s, rfl, p_vJ h⟩
  · simp at h
theorem p_tg_ok {pc : Nat} {off : Int} (h : p_bo pc off = true) : (pc : Int) + off = (p_tg pc off : Int) := by
  simp only [p_bo, decide_eq_true_eq] at h
  simp only [p_tg]
  omega
theorem p_vb2 {c : Int32 → Int32 → Bool} {off : Int} (h : p_b2 c pc off L st w = some (.inr (.inl (pc1, L1, st1, w1)))) : ∃ x y s, st = .int y :: .int x :: s ∧ (pc : Int) + off = (p_tg pc off : Int) ∧ pc1 = (if c x y = true then p_tg pc off else pc + 3) ∧ L1 = L ∧ st1 = s ∧ w1 = w := by
  unfold p_b2 at h; split at h
  · next y x s => split at h
                  · next hb => exact ⟨x, y, s, rfl, p_tg_ok hb, p_vJ h⟩
                  · simp at h
  · simp at h
theorem p_vb1 {c : Int32 → Bool} {off : Int} (h : p_b1 c pc off L st w = some (.inr (.inl (pc1, L1, st1, w1)))) : ∃ x s, st = .int x :: s ∧ (pc : Int) + off = (p_tg pc off : Int) ∧ pc1 = (if c x = true then p_tg pc off else pc + 3) ∧ L1 = L ∧ st1 = s ∧ w1 = w := by
  unfold p_b1 at h; split at h
  · next x s => split at h
                · next hb => exact ⟨x, s, rfl, p_tg_ok hb, p_vJ h⟩
                · simp at h
  · simp at h
theorem p_vgf {mi idx : Nat} (h : p_gf mi idx pc L st w = some (.inr (.inl (pc1, L1, st1, w1)))) : ∃ o s ci k fs f, st = .ref o :: s ∧ p_fld (p_own mi) idx = some (ci, k) ∧ p_ob o = some (.inr (ci, fs)) ∧ fs[k]? = some f ∧ pc1 = pc + 3 ∧ L1 = L ∧ st1 = p_fv w o k f :: s ∧ w1 = w := by
  unfold p_gf at h; split at h
  · next o s => split at h
                · next ci k hf => split at h
                                  · next cj fs ho => split at h
                                                     · next hc => subst hc
                                                                  split at h
                                                                  · next f hk => exact ⟨o, s, cj, k, fs, f, rfl, hf, ho, hk, p_vJ h⟩
                                                                  · simp at h
                                                     · simp at h
                                  · simp at h
                · simp at h
  · simp at h
theorem p_vpf {mi idx : Nat} (h : p_pf mi idx pc L st w = some (.inr (.inl (pc1, L1, st1, w1)))) : ∃ o s ci k fs v, st = .int v :: .ref o :: s ∧ p_fld (p_own mi) idx = some (ci, k) ∧ p_ob o = some (.inr (ci, fs)) ∧ fs[k]? = some none ∧ pc1 = pc + 3 ∧ L1 = L ∧ st1 = s ∧ w1 = (p_u w.1 o k v, w.2) := by
  unfold p_pf at h; split at h
  · next v o s => split at h
                  · next ci k hf => split at h
                                    · next cj fs ho => split at h
                                                       · next hc => subst hc
                                                                    split at h
                                                                    · next hk => exact ⟨o, s, cj, k, fs, v, rfl, hf, ho, hk, p_vJ h⟩
                                                                    · simp at h
                                                       · simp at h
                                    · simp at h
                  · simp at h
  · simp at h
theorem p_out_in {i : Int32} {n : Nat} (h : p_out i n = false) : vp_in i n := by
  simp only [p_out, decide_eq_false_iff_not] at h
  exact h
theorem p_vald {scr : pX} {t0 : Nat} (h : p_ald scr t0 pc L st w = some (.inr (.inl (pc1, L1, st1, w1)))) : ∃ o i s, st = .int i :: .ref o :: s ∧ pc1 = pc + 1 ∧ L1 = L ∧ w1 = w ∧
    ((∃ n, p_ob o = some (.inl (t0, n)) ∧ vp_in i n ∧ st1 = .int (w.2.2 o i.toNatClampNeg) :: s) ∨ (∃ n xs, scr = some (n, xs) ∧ o = 999 ∧ t0 = 1 ∧ vp_in i n ∧ st1 = .int (xs i.toNatClampNeg) :: s)) := by
  unfold p_ald at h; split at h
  · next i o s => split at h
                  · next t n ho => split at h
                                   · next hc => obtain ⟨rfl, hi⟩ := hc
                                                obtain ⟨a, b, c, d⟩ := p_vJ h
                                                exact ⟨o, i, s, rfl, a, b, d, Or.inl ⟨n, ho, p_out_in hi, c⟩⟩
                                   · simp at h
                  · simp at h
                  · next ho => split at h
                               · next n xs => split at h
                                              · next hc => obtain ⟨ho9, ht, hi⟩ := hc
                                                           obtain ⟨a, b, c, d⟩ := p_vJ h
                                                           exact ⟨o, i, s, rfl, a, b, d, Or.inr ⟨n, xs, rfl, ho9, ht, p_out_in hi, c⟩⟩
                                              · simp at h
                               · simp at h
  · simp at h
theorem p_vlald (h : p_lald pc L st w = some (.inr (.inl (pc1, L1, st1, w1)))) : ∃ o i s n, st = .int i :: .ref o :: s ∧ p_ob o = some (.inl (2, n)) ∧ vp_in i n ∧ pc1 = pc + 1 ∧ L1 = L ∧ st1 = .long (w.2.1 o i.toNatClampNeg) :: s ∧ w1 = w := by
  unfold p_lald at h; split at h
  · next i o s => split at h
                  · next t n ho => split at h
                                   · next hc => obtain ⟨rfl, hi⟩ := hc
                                                exact ⟨o, i, s, n, rfl, ho, p_out_in hi, p_vJ h⟩
                                   · simp at h
                  · simp at h
  · simp at h
theorem p_vbald (h : p_bald pc L st w = some (.inr (.inl (pc1, L1, st1, w1)))) : ∃ o i s t n, st = .int i :: .ref o :: s ∧ p_ob o = some (.inl (t, n)) ∧ (t = 0 ∨ t = 3) ∧ vp_in i n ∧ pc1 = pc + 1 ∧ L1 = L ∧ st1 = .int (w.2.2 o i.toNatClampNeg) :: s ∧ w1 = w := by
  unfold p_bald at h; split at h
  · next i o s => split at h
                  · next t n ho => split at h
                                   · next hc => exact ⟨o, i, s, t, n, rfl, ho, hc.1, p_out_in hc.2, p_vJ h⟩
                                   · simp at h
                  · simp at h
  · simp at h
theorem p_vbast (h : p_bast pc L st w = some (.inr (.inl (pc1, L1, st1, w1)))) : ∃ o i x s t n, st = .int x :: .int i :: .ref o :: s ∧ p_ob o = some (.inl (t, n)) ∧ (t = 0 ∨ t = 3) ∧ vp_in i n ∧ pc1 = pc + 1 ∧ L1 = L ∧ st1 = s ∧ w1 = (w.1, w.2.1, p_u w.2.2 o i.toNatClampNeg (vp_nar (p_bty t) x)) := by
  unfold p_bast at h; split at h
  · next x i o s => split at h
                    · next t n ho => split at h
                                     · next hc => exact ⟨o, i, x, s, t, n, rfl, ho, hc.1, p_out_in hc.2, p_vJ h⟩
                                     · simp at h
                    · simp at h
  · simp at h
theorem p_viast (h : p_iast pc L st w = some (.inr (.inl (pc1, L1, st1, w1)))) : ∃ o i x s n, st = .int x :: .int i :: .ref o :: s ∧ p_ob o = some (.inl (1, n)) ∧ vp_in i n ∧ pc1 = pc + 1 ∧ L1 = L ∧ st1 = s ∧ w1 = (w.1, w.2.1, p_u w.2.2 o i.toNatClampNeg x) := by
  unfold p_iast at h; split at h
  · next x i o s => split at h
                    · next t n ho => split at h
                                     · next hc => obtain ⟨rfl, hi⟩ := hc
                                                  exact ⟨o, i, x, s, n, rfl, ho, p_out_in hi, p_vJ h⟩
                                     · simp at h
                    · simp at h
  · simp at h
theorem p_vlast (h : p_last pc L st w = some (.inr (.inl (pc1, L1, st1, w1)))) : ∃ o i x s n, st = .long x :: .int i :: .ref o :: s ∧ p_ob o = some (.inl (2, n)) ∧ vp_in i n ∧ pc1 = pc + 1 ∧ L1 = L ∧ st1 = s ∧ w1 = (w.1, p_u w.2.1 o i.toNatClampNeg x, w.2.2) := by
  unfold p_last at h; split at h
  · next x i o s => split at h
                    · next t n ho => split at h
                                     · next hc => obtain ⟨rfl, hi⟩ := hc
                                                  exact ⟨o, i, x, s, n, rfl, ho, p_out_in hi, p_vJ h⟩
                                     · simp at h
                    · simp at h
  · simp at h
theorem p_valen {scr : pX} (h : p_alen scr pc L st w = some (.inr (.inl (pc1, L1, st1, w1)))) : ∃ o s, st = .ref o :: s ∧ pc1 = pc + 1 ∧ L1 = L ∧ w1 = w ∧
    ((∃ t n, p_ob o = some (.inl (t, n)) ∧ st1 = .int (Int32.ofNat n) :: s) ∨ (∃ n xs, scr = some (n, xs) ∧ o = 999 ∧ st1 = .int (Int32.ofNat n) :: s)) := by
  unfold p_alen at h; split at h
  · next o s => split at h
                · next t n ho => obtain ⟨a, b, c, d⟩ := p_vJ h
                                 exact ⟨o, s, rfl, a, b, d, Or.inl ⟨t, n, ho, c⟩⟩
                · simp at h
                · next ho => split at h
                             · next n xs => split at h
                                            · next hc => obtain ⟨a, b, c, d⟩ := p_vJ h
                                                         exact ⟨o, s, rfl, a, b, d, Or.inr ⟨n, xs, rfl, hc, c⟩⟩
                                            · simp at h
                             · simp at h
  · simp at h
theorem p_vdup (h : p_dup pc L st w = some (.inr (.inl (pc1, L1, st1, w1)))) : ∃ v s, st = v :: s ∧ v.category = 1 ∧ pc1 = pc + 1 ∧ L1 = L ∧ st1 = v :: v :: s ∧ w1 = w := by
  unfold p_dup at h; split at h
  · next v s => split at h
                · next hc => exact ⟨v, s, rfl, hc, p_vJ h⟩
                · simp at h
  · simp at h
theorem p_vdup2 (h : p_dup2 pc L st w = some (.inr (.inl (pc1, L1, st1, w1)))) : ∃ v u s, st = v :: u :: s ∧ v.category = 1 ∧ u.category = 1 ∧ pc1 = pc + 1 ∧ L1 = L ∧ st1 = v :: u :: v :: u :: s ∧ w1 = w := by
  unfold p_dup2 at h; split at h
  · next v u s => split at h
                  · next hc => exact ⟨v, u, s, rfl, hc.1, hc.2, p_vJ h⟩
                  · simp at h
  · simp at h
theorem p_vpop (h : p_pop pc L st w = some (.inr (.inl (pc1, L1, st1, w1)))) : ∃ v s, st = v :: s ∧ v.category = 1 ∧ pc1 = pc + 1 ∧ L1 = L ∧ st1 = s ∧ w1 = w := by
  unfold p_pop at h; split at h
  · next v s => split at h
                · next hc => exact ⟨v, s, rfl, hc, p_vJ h⟩
                · simp at h
  · simp at h
theorem p_vinc {n : Int} (h : p_inc k n pc L st w = some (.inr (.inl (pc1, L1, st1, w1)))) : ∃ x, L[k]? = some (.int x) ∧ pc1 = pc + 3 ∧ L1 = L.set k (.int (x + Int32.ofInt n)) ∧ st1 = st ∧ w1 = w := by
  unfold p_inc at h; split at h
  · next x hx => exact ⟨x, hx, p_vJ h⟩
  · simp at h
theorem p_vgt {mi : Nat} {off : Int} (h : p_gt mi pc off L st w = some (.inr (.inl (pc1, L1, st1, w1)))) : (pc : Int) + off = (p_tg pc off : Int) ∧ pc1 = p_tg pc off ∧ L1 = L ∧ st1 = st ∧ w1 = w := by
  unfold p_gt at h; split at h
  · next hb => split at h
               · split at h <;> simp [p_D] at h
               · exact ⟨p_tg_ok hb, p_vJ h⟩
  · simp at h
theorem p_vswt {d lo hi : Int} {os : Array Int} (h : p_swt pc d lo hi os L st w = some (.inr (.inl (pc1, L1, st1, w1)))) : ∃ x s, st = .int x :: s ∧ L1 = L ∧ st1 = s ∧ w1 = w ∧
    (((x.toInt < lo ∨ hi < x.toInt) ∧ (pc : Int) + d = (pc1 : Int)) ∨ (¬ x.toInt < lo ∧ ¬ hi < x.toInt ∧ ∃ off, os[(x.toInt - lo).toNat]? = some off ∧ (pc : Int) + off = (pc1 : Int))) := by
  unfold p_swt at h; split at h
  · next x s => split at h
                · next hx => split at h
                             · next hb => obtain ⟨a, b, c, e⟩ := p_vJ h
                                          exact ⟨x, s, rfl, b, c, e, Or.inl ⟨hx, by rw [a]; exact p_tg_ok hb⟩⟩
                             · simp at h
                · next hx => split at h
                             · next off ho => split at h
                                              · next hb => obtain ⟨a, b, c, e⟩ := p_vJ h
                                                           exact ⟨x, s, rfl, b, c, e, Or.inr ⟨fun z => hx (Or.inl z), fun z => hx (Or.inr z), off, ho, by rw [a]; exact p_tg_ok hb⟩⟩
                                              · simp at h
                             · simp at h
  · simp at h
theorem p_viv {virt : Bool} {mi idx : Nat} (h : p_iv virt mi idx pc L st w = some (.inr (.inl (pc1, L1, st1, w1)))) : virt = false ∧ p_mok mi = true ∧ pc1 = pc + 3 ∧ L1 = L ∧ w1 = w ∧
    ((∃ x s n, p_inv (p_own mi) idx = some (0, 0, n) ∧ st = .long x :: s ∧ p_cs s ≤ 8 ∧ st1 = .long (p_abs x) :: s) ∨ (∃ x y s n, p_inv (p_own mi) idx = some (0, 1, n) ∧ st = .long y :: .long x :: s ∧ p_cs s ≤ 8 ∧ st1 = .long (p_max x y) :: s) ∨ (∃ x y s mj n, p_inv (p_own mi) idx = some (0, mj, n) ∧ mj ≠ 0 ∧ mj ≠ 1 ∧ st = .long y :: .long x :: s ∧ p_cs s ≤ 8 ∧ st1 = .long (p_min x y) :: s)) := by
  unfold p_iv at h; split at h
  · next n hi => split at h
                 · next x s => split at h
                               · next hc => obtain ⟨a, b, c, d⟩ := p_vJ h
                                            exact ⟨hc.1, hc.2.2, a, b, d, Or.inl ⟨x, s, n, hi, rfl, hc.2.1, c⟩⟩
                               · simp at h
                 · simp at h
  · next n hi => split at h
                 · next y x s => split at h
                                 · next hc => obtain ⟨a, b, c, d⟩ := p_vJ h
                                              exact ⟨hc.1, hc.2.2, a, b, d, Or.inr (Or.inl ⟨x, y, s, n, hi, rfl, hc.2.1, c⟩)⟩
                                 · simp at h
                 · simp at h
  · next mj n h0 h1 hi => split at h
                          · next y x s => split at h
                                          · next hc => obtain ⟨a, b, c, d⟩ := p_vJ h
                                                       exact ⟨hc.1, hc.2.2, a, b, d, Or.inr (Or.inr ⟨x, y, s, mj, n, hi, h0, h1, rfl, hc.2.1, c⟩)⟩
                                          · simp at h
                          · simp at h
  · split at h
    · split at h
      · split at h
        · split at h
          · split at h <;> simp at h
          · simp at h
        · simp at h
      · simp at h
    · simp at h
  · simp at h
end Inv
end
section
/-! ONE STEP OF THE MACHINE FOR ONE STEP OF THE PURE INTERPRETER -/
def p_ncT : List (String × String) := []
/-- what isn't the class's own: texts, two statics of Throwable, a link of a nest mate, which exceptions are castable to which -/
def p_xx (A : Nat → Prop) (U : State) (H : Heap) : Prop := (∀ q ∈ p_txT, ∃ sa, vk_R RX4 q.1 q.2 sa U) ∧ vx_Zq Bundle.tN "UNASSIGNED_STACK" Bundle.steD A U H ∧ vx_Zq Bundle.tN "SUPPRESSED_SENTINEL" Bundle.listD A U H ∧ (∀ w ∈ p_xB, va_Nw w U) ∧ va_Nw p_nst U ∧ ∀ E, E < 0 → ∀ F, F < 3 → E ≠ F → va_Nc (p_xn E) (p_xn F) U
def p_Cx (l : Launch) (R : Room) (p : Program) (s : State) (m : MethodId) (args : Array Value) (meth : Method) (c : Code) (mi : Nat) : Prop :=
  p.tables.exec = Jvm.exec ∧ c.code = p_b mi ∧ c.maxLocals = p_ml mi ∧ s.vm.findClass (p_nm (p_own mi)) = some m.cls ∧ (∀ w ∈ p_big, w.before args s = true) ∧ meth.locks = false ∧ meth.sig.returnType = p_rt mi ∧ p_rF mi ≤ R.frames ∧ p_rL mi ≤ R.locals ∧ l.stackTraces = false ∧ c.exceptionTable.toList = tableOf (p_hh mi)
def p_Wd (D : va_G) (ty : Nat → ClassId) (A : Nat → Prop) (s : State) : Prop := va_K D vwCl (p_tys ty) s ∧ (∀ q : Nat, s.heap.size ≤ q → A q) ∧ p_xx A s s.heap
def p_sc (scr : pX) (ad : Nat → Nat) (A : Nat → Prop) (s : State) : Prop := ∀ n xs, scr = some (n, xs) → va_X (ad 999) n xs s s.heap ∧ ad 999 < s.heap.size ∧ ¬ A (ad 999)
def p_K (p : Program) (l : Launch) (e : Env) (R : Room) (s : State) (m : MethodId) (args : Array Value) (below : List Frame) (meth : Method) (c : Code) (cells slots : Nat) (Q : State → Prop) (D : va_G) (ty : Nat → ClassId) (ad : Nat → Nat) (A : Nat → Prop) (mi pc : Nat) (L st : List Value) (w : pW) : Prop :=
  ∀ (ls : Array Slot) (H : Heap) (locs : List Loc), p_lh ad ls (p_ml mi) L → va_P D vwCl (p_ws ad ty w) H → va_D A (p_ws ad ty w) → va_S A s.heap H locs → W p l e R s m args below meth c H locs cells slots Q (F0 m pc ls (st.map (p_cv ad)))
theorem p_cl {c : Nat} (h : c < 5) : vwCl[c]? = some (p_nm c, p_TT c, p_NN c) := by
  match c, h with
  | 0, _ => rfl
  | 1, _ => rfl
  | 2, _ => rfl
  | 3, _ => rfl
  | 4, _ => rfl
  | c + 5, h => exact absurd h (by omega)
theorem p_obk : p_obs.all (fun d => match d with
    | .inl (t, n) => decide (t < 4) && decide (n ≤ 5000)
    | .inr (c, fs) => decide (c < 5) && decide (fs.length = p_NN c) && (List.range fs.length).all (fun k => match fs[k]? with
      | some none => decide ((p_TT c k).2.2.1 = "I") && ((p_TT c k).2.2.2 == false)
      | _ => true)) = true := by decide +kernel
theorem p_ob_cls {o c : Nat} {fs : List (Option Nat)} (h : p_ob o = some (.inr (c, fs))) : c < 5 ∧ fs.length = p_NN c ∧ ∀ k, fs[k]? = some none → (p_TT c k).2.2.1 = "I" ∧ (p_TT c k).2.2.2 = false := by
  have h1 := List.all_eq_true.mp p_obk _ (List.mem_of_getElem? h)
  simp only [Bool.and_eq_true, decide_eq_true_eq, List.all_eq_true] at h1
  refine ⟨h1.1.1, h1.1.2, fun k hk => ?_⟩
  have h2 := h1.2 k (List.mem_range.mpr (List.getElem?_eq_some_iff.mp hk).1)
  rw [hk] at h2
  simpa using h2
theorem p_ob_arr {o t n : Nat} (h : p_ob o = some (.inl (t, n))) : t < 4 := by
  have h1 := List.all_eq_true.mp p_obk _ (List.mem_of_getElem? h)
  simp only [Bool.and_eq_true, decide_eq_true_eq] at h1
  exact h1.1
theorem p_layc {c : Nat} (h : c < 5) : ∀ w ∈ u_ws (p_nm c) (p_TT c) (p_NN c), w ∈ p_big := by
  intro w hw
  have h1 := List.all_eq_true.mp p_k2 c (List.mem_range.mpr h)
  exact p_hb_big (List.all_eq_true.mp h1 w hw)
theorem p_tyc (c : Nat) : ∃ t0 : Nat → FieldType, (∀ k, k < p_NN c → parseFieldDescriptor (p_TT c k).2.2.1 = some (t0 k)) ∧ ∀ a, a < p_NN c → ∀ b, b < p_NN c → a ≠ b → (p_TT c a).2.1 ≠ (p_TT c b).2.1 := by
  unfold p_TT p_NN
  split
  · exact ⟨tyX0, tyX0_ok, nmX0⟩
  · exact ⟨tyX1, tyX1_ok, nmX1⟩
  · exact ⟨tyX2, tyX2_ok, nmX2⟩
  · exact ⟨tyX3, tyX3_ok, nmX3⟩
  · exact ⟨tyX4, tyX4_ok, nmX4⟩
  · exact ⟨tyX5, tyX5_ok, nmX5⟩
theorem p_fldk {mi idx ci k : Nat} (h : p_fld (p_own mi) idx = some (ci, k)) : Cond.fieldLink (p_nm (p_own mi)) idx (p_TT ci k).1 (p_TT ci k).2.1 (p_TT ci k).2.2.1 ∈ p_big ∧ k < p_NN ci := by
  have h1 := List.all_eq_true.mp p_k1 _ (p_lk h)
  simp only [Bool.and_eq_true, decide_eq_true_eq] at h1
  exact ⟨p_hb_big h1.1.1, h1.1.2⟩
theorem p_tys0 {ty : Nat → ClassId} : (p_tys ty)[0]? = some (ty 0, .byte) := rfl
theorem p_tys1 {ty : Nat → ClassId} : (p_tys ty)[1]? = some (ty 1, .int) := rfl
theorem p_tys2 {ty : Nat → ClassId} : (p_tys ty)[2]? = some (ty 2, .long) := rfl
theorem p_tys3 {ty : Nat → ClassId} : (p_tys ty)[3]? = some (ty 3, .boolean) := rfl
theorem p_cellA {ad : Nat → Nat} {ty : Nat → ClassId} {w : pW} {o t n : Nat} (h : p_ob o = some (.inl (t, n))) (ht : t ≠ 2) : (p_ws ad ty w)[o]? = some (ad o, .inl (ty t, n, .inl (w.2.2 o))) := by
  rw [p_ws_get (p_ob_lt h)]; unfold p_cell; rw [h]; simp [ht]
theorem p_cellJ {ad : Nat → Nat} {ty : Nat → ClassId} {w : pW} {o n : Nat} (h : p_ob o = some (.inl (2, n))) : (p_ws ad ty w)[o]? = some (ad o, .inl (ty 2, n, .inr (.inl (w.2.1 o)))) := by
  rw [p_ws_get (p_ob_lt h)]; unfold p_cell; rw [h]; simp
theorem p_cellO {ad : Nat → Nat} {ty : Nat → ClassId} {w : pW} {o c : Nat} {fs : List (Option Nat)} (h : p_ob o = some (.inr (c, fs))) : (p_ws ad ty w)[o]? = some (ad o, .inr (c, p_fl ad w o 0 fs)) := by
  rw [p_ws_get (p_ob_lt h)]; unfold p_cell; rw [h]
theorem p_xB_k : p_xB.all (fun w => match w with
    | .castable _ _ => true
    | .declares _ => true
    | _ => false) = true := by decide +kernel
theorem p_xB_kinds : ∀ w ∈ p_xB, (∃ X Y, w = Cond.castable X Y) ∨ ∃ x, w = Cond.declares x := by
  intro w hw
  have h := List.all_eq_true.mp p_xB_k w hw
  split at h
  · exact Or.inl ⟨_, _, rfl⟩
  · exact Or.inr ⟨_, rfl⟩
  · simp at h
theorem p_xB_on : ∀ w ∈ p_xB, w.onTables = true := by
  intro w hw
  rcases p_xB_kinds w hw with ⟨X, Y, rfl⟩ | ⟨x, rfl⟩ <;> rfl
theorem p_zipm {α β : Type} : ∀ (a : List α) (b : List β) {y : β}, b.length ≤ a.length → y ∈ b → ∃ x, (x, y) ∈ a.zip b
  | _, [], _, _, h => absurd h List.not_mem_nil
  | [], _ :: _, _, h, _ => absurd h (by simp)
  | x :: a, z :: b, y, h, hy => by
    rcases List.mem_cons.mp hy with rfl | hy
    · exact ⟨x, List.mem_cons_self⟩
    · obtain ⟨x1, h1⟩ := p_zipm a b (by simpa using h) hy
      exact ⟨x1, List.mem_cons_of_mem _ h1⟩
theorem p_ivk {mi idx : Nat} {q : Nat × Nat × Nat} (h : p_inv (p_own mi) idx = some q) : ∃ x, p_k5b x ((p_own mi, idx), q) = true := by
  obtain ⟨x, hx⟩ := p_zipm p_ivi p_invT p_k5l (p_lk h)
  exact ⟨x, List.all_eq_true.mp p_k5 _ hx⟩
theorem p_irt_no {mi : Nat} {st : List Value} {w : pW} {x : pJ ⊕ (Nat × List Value × List Value)} : ¬ p_irt mi st w = some (.inr x) := by
  unfold p_irt
  split
  · split
    · simp [p_D]
    · split <;> simp [p_D]
    · simp
  · simp
theorem p_lrt_no {mi : Nat} {st : List Value} {w : pW} {x : pJ ⊕ (Nat × List Value × List Value)} : ¬ p_lrt mi st w = some (.inr x) := by
  unfold p_lrt
  split
  · split <;> simp [p_D]
  · simp
theorem p_vrt_no {mi : Nat} {st : List Value} {w : pW} {x : pJ ⊕ (Nat × List Value × List Value)} : ¬ p_vrt mi st w = some (.inr x) := by
  unfold p_vrt
  split
  · split <;> simp [p_D]
  · simp
theorem p_nw_no {mi ik pc : Nat} {st : List Value} {w : pW} {x : pJ ⊕ (Nat × List Value × List Value)} : ¬ p_nw mi ik pc st w = some (.inr x) := by
  unfold p_nw
  split
  · split
    · split <;> simp [p_D]
    · simp
  · simp
section Steps
variable {p : Program} {l : Launch} {e : Env} {R : Room} {s : State} {m : MethodId} {args : Array Value} {below : List Frame} {meth : Method} {c : Code} {cells slots : Nat} {Q : State → Prop} {D : va_G} {ty : Nat → ClassId} {ad : Nat → Nat} {A : Nat → Prop} {scr : pX} {mi pc pc1 : Nat} {L L1 st st1 : List Value} {w w1 : pW}
set_option maxHeartbeats 8000000 in
set_option maxRecDepth 20000 in
theorem p_snd_jump (C : p_Cx l R p s m args meth c mi) (V : p_Wd D ty A s) (X : p_sc scr ad A s) (hc : cells ≤ R.cells) (hs : slots ≤ R.slots)
    (h : p_stp scr mi pc L st w = some (.inr (.inl (pc1, L1, st1, w1)))) (k : p_K p l e R s m args below meth c cells slots Q D ty ad A mi pc1 L1 st1 w1) : p_K p l e R s m args below meth c cells slots Q D ty ad A mi pc L st w := by
  obtain ⟨hx, hb, hml, hown, hts, hlk, hrt, hRF, hRL, hst, htab⟩ := C
  obtain ⟨hK, hA, hxx⟩ := V
  unfold p_stp at h
  cases hat : p_at mi pc with
  | none => rw [hat] at h; simp at h
  | some ins =>
    rw [hat] at h
    dsimp only at h
    have hd := p_dec hat
    intro ls H locs hl hP hD hS
    have hn := hl.2.1
    cases ins <;> first | (exact absurd h (show ¬ ((none : Option pS) = _) from fun z => by cases z)) | skip
    case iload i =>
      obtain ⟨x, hv, rfl, rfl, rfl, rfl⟩ := p_vlI h
      exact lv_iload hx hb hd (p_lh_at hl hv (by simp [p_U])) (k ls H locs hl hP hD hS)
    case iload_n i =>
      obtain ⟨x, hv, rfl, rfl, rfl, rfl⟩ := p_vlI h
      exact lv_iload_n hx hb hd rfl (p_lh_at hl hv (by simp [p_U])) (k ls H locs hl hP hD hS)
    case lload i =>
      obtain ⟨x, hv, rfl, rfl, rfl, rfl⟩ := p_vlJ h
      exact lv_lload hx hb hd (p_lh_at hl hv (by simp [p_U])) (k ls H locs hl hP hD hS)
    case lload_n i =>
      obtain ⟨x, hv, rfl, rfl, rfl, rfl⟩ := p_vlJ h
      exact lv_lload_n hx hb hd rfl (p_lh_at hl hv (by simp [p_U])) (k ls H locs hl hP hD hS)
    case aload i =>
      obtain ⟨x, hv, rfl, rfl, rfl, rfl⟩ := p_vlA h
      exact lv_aload hx hb hd (p_lh_at hl hv (by simp [p_U])) (k ls H locs hl hP hD hS)
    case aload_n i =>
      obtain ⟨x, hv, rfl, rfl, rfl, rfl⟩ := p_vlA h
      exact lv_aload_n hx hb hd rfl (p_lh_at hl hv (by simp [p_U])) (k ls H locs hl hP hD hS)
    case istore i =>
      obtain ⟨x, z, rfl, hi, rfl, rfl, rfl, rfl⟩ := p_vsI h
      rw [hl.1] at hi
      exact lv_istore hx hb hd (p_lh_has hl) hi rfl (fun ls1 h1 => k ls1 H locs (p_lh_stI hl h1) hP hD hS)
    case istore_n i =>
      obtain ⟨x, z, rfl, hi, rfl, rfl, rfl, rfl⟩ := p_vsI h
      rw [hl.1] at hi
      exact lv_istore_n hx hb hd rfl (p_lh_has hl) hi rfl (fun ls1 h1 => k ls1 H locs (p_lh_stI hl h1) hP hD hS)
    case lstore i =>
      obtain ⟨x, z, rfl, hi, rfl, rfl, rfl, rfl⟩ := p_vsJ h
      rw [hl.1] at hi
      exact lv_lstore hx hb hd (p_lh_has hl) hi rfl (fun ls1 h1 => k ls1 H locs (p_lh_stJ hl h1) hP hD hS)
    case lstore_n i =>
      obtain ⟨x, z, rfl, hi, rfl, rfl, rfl, rfl⟩ := p_vsJ h
      rw [hl.1] at hi
      exact lv_lstore_n hx hb hd rfl (p_lh_has hl) hi rfl (fun ls1 h1 => k ls1 H locs (p_lh_stJ hl h1) hP hD hS)
    case iconst n =>
      obtain ⟨rfl, rfl, rfl, rfl⟩ := p_vJ h
      exact lv_iconst hx hb hd rfl (k ls H locs hl hP hD hS)
    case bipush n =>
      obtain ⟨rfl, rfl, rfl, rfl⟩ := p_vJ h
      exact lv_bipush hx hb hd rfl (k ls H locs hl hP hD hS)
    case sipush n =>
      obtain ⟨rfl, rfl, rfl, rfl⟩ := p_vJ h
      exact lv_sipush hx hb hd rfl (k ls H locs hl hP hD hS)
    case lconst n =>
      obtain ⟨rfl, rfl, rfl, rfl⟩ := p_vJ h
      exact lv_lconst hx hb hd rfl (k ls H locs hl hP hD hS)
    case ldc i =>
      dsimp only [p_ex] at h
      split at h
      · next v hv =>
        obtain ⟨rfl, rfl, rfl, rfl⟩ := p_vJ h
        exact lv_ldc hx hb hown (hts _ (p_hb_big (List.all_eq_true.mp p_k3 _ (p_lk hv)))) hd (k ls H locs hl hP hD hS)
      · simp at h
    case ldc2_w i =>
      dsimp only [p_ex] at h
      split at h
      · next v hv =>
        obtain ⟨rfl, rfl, rfl, rfl⟩ := p_vJ h
        exact lv_ldc2 hx hb hown (hts _ (p_hb_big (List.all_eq_true.mp p_k4 _ (p_lk hv)))) hd (k ls H locs hl hP hD hS)
      · simp at h
    case iadd =>
      obtain ⟨x, y, z, rfl, rfl, rfl, rfl, rfl⟩ := p_vi2 h
      exact lv_iadd hx hb hd (k ls H locs hl hP hD hS)
    case isub =>
      obtain ⟨x, y, z, rfl, rfl, rfl, rfl, rfl⟩ := p_vi2 h
      exact lv_isub hx hb hd (k ls H locs hl hP hD hS)
    case imul =>
      obtain ⟨x, y, z, rfl, rfl, rfl, rfl, rfl⟩ := p_vi2 h
      exact lv_imul hx hb hd (k ls H locs hl hP hD hS)
    case iand =>
      obtain ⟨x, y, z, rfl, rfl, rfl, rfl, rfl⟩ := p_vi2 h
      exact lv_iand hx hb hd (k ls H locs hl hP hD hS)
    case ior =>
      obtain ⟨x, y, z, rfl, rfl, rfl, rfl, rfl⟩ := p_vi2 h
      exact lv_ior hx hb hd (k ls H locs hl hP hD hS)
    case iushr =>
      obtain ⟨x, y, z, rfl, rfl, rfl, rfl, rfl⟩ := p_vi2 h
      exact lv_iushr hx hb hd rfl (k ls H locs hl hP hD hS)
    case ishl =>
      obtain ⟨x, y, z, rfl, rfl, rfl, rfl, rfl⟩ := p_vi2 h
      exact lv_ishl hx hb hd (k ls H locs hl hP hD hS)
    case ishr =>
      obtain ⟨x, y, z, rfl, rfl, rfl, rfl, rfl⟩ := p_vi2 h
      exact lv_ishr hx hb hd (k ls H locs hl hP hD hS)
    case idiv =>
      obtain ⟨x, y, z, rfl, hy, rfl, rfl, rfl, rfl⟩ := p_vi2z h
      exact lv_idiv hx hb hd hy (k ls H locs hl hP hD hS)
    case irem =>
      obtain ⟨x, y, z, rfl, hy, rfl, rfl, rfl, rfl⟩ := p_vi2z h
      exact lv_irem hx hb hd hy (k ls H locs hl hP hD hS)
    case ineg =>
      obtain ⟨x, z, rfl, rfl, rfl, rfl, rfl⟩ := p_vi1 h
      exact lv_ineg hx hb hd (k ls H locs hl hP hD hS)
    case i2b =>
      obtain ⟨x, z, rfl, rfl, rfl, rfl, rfl⟩ := p_vi1 h
      exact lv_i2b hx hb hd rfl (k ls H locs hl hP hD hS)
    case ladd =>
      obtain ⟨x, y, z, rfl, rfl, rfl, rfl, rfl⟩ := p_vl2 h
      exact lv_ladd hx hb hd (k ls H locs hl hP hD hS)
    case lsub =>
      obtain ⟨x, y, z, rfl, rfl, rfl, rfl, rfl⟩ := p_vl2 h
      exact lv_lsub hx hb hd (k ls H locs hl hP hD hS)
    case lmul =>
      obtain ⟨x, y, z, rfl, rfl, rfl, rfl, rfl⟩ := p_vl2 h
      exact lv_lmul hx hb hd (k ls H locs hl hP hD hS)
    case land =>
      obtain ⟨x, y, z, rfl, rfl, rfl, rfl, rfl⟩ := p_vl2 h
      exact lv_land hx hb hd (k ls H locs hl hP hD hS)
    case ldiv =>
      obtain ⟨x, y, z, rfl, hy, rfl, rfl, rfl, rfl⟩ := p_vl2z h
      exact lv_ldiv hx hb hd hy (k ls H locs hl hP hD hS)
    case lrem =>
      obtain ⟨x, y, z, rfl, hy, rfl, rfl, rfl, rfl⟩ := p_vl2z h
      exact lv_lrem hx hb hd hy (k ls H locs hl hP hD hS)
    case lneg =>
      obtain ⟨x, z, rfl, rfl, rfl, rfl, rfl⟩ := p_vl1 h
      exact lv_lneg hx hb hd (k ls H locs hl hP hD hS)
    case lshl =>
      obtain ⟨x, y, z, rfl, rfl, rfl, rfl, rfl⟩ := p_vlsh h
      exact lv_lshl hx hb hd rfl (k ls H locs hl hP hD hS)
    case lshr =>
      obtain ⟨x, y, z, rfl, rfl, rfl, rfl, rfl⟩ := p_vlsh h
      exact lv_lshr hx hb hd rfl (k ls H locs hl hP hD hS)
    case lcmp =>
      dsimp only [p_ex] at h
      split at h
      · next y x z =>
        obtain ⟨rfl, rfl, rfl, rfl⟩ := p_vJ h
        exact W.lcmp hx hb hd (k ls H locs hl hP hD hS)
      · simp at h
    case i2l =>
      dsimp only [p_ex] at h
      split at h
      · next x z =>
        obtain ⟨rfl, rfl, rfl, rfl⟩ := p_vJ h
        exact lv_i2l hx hb hd rfl (k ls H locs hl hP hD hS)
      · simp at h
    case l2i =>
      dsimp only [p_ex] at h
      split at h
      · next x z =>
        obtain ⟨rfl, rfl, rfl, rfl⟩ := p_vJ h
        exact lv_l2i hx hb hd rfl (k ls H locs hl hP hD hS)
      · simp at h
    case iinc i n =>
      obtain ⟨x, hv, rfl, rfl, rfl, rfl⟩ := p_vinc h
      obtain ⟨j, hj⟩ := List.getElem?_of_mem (p_lv_mem (ad := ad) (L := L) (q := (i, .int x)).mpr ⟨_, hv, by simp [p_U], rfl⟩)
      exact lv_iinc hx hb hd (p_lh_has hl) hj rfl (by rw [← hl.1]; exact (List.getElem?_eq_some_iff.mp hv).1) rfl (fun ls1 h1 => k ls1 H locs (p_lh_set hl hv h1) hP hD hS)
    case dup =>
      obtain ⟨v, z, rfl, hv, rfl, rfl, rfl, rfl⟩ := p_vdup h
      exact lv_dup hx hb hd (p_cv_cat.trans hv) (k ls H locs hl hP hD hS)
    case dup2 =>
      obtain ⟨v, u, z, rfl, hv, hu, rfl, rfl, rfl, rfl⟩ := p_vdup2 h
      exact lv_dup2_11 hx hb hd (p_cv_cat.trans hv) (p_cv_cat.trans hu) (k ls H locs hl hP hD hS)
    case pop =>
      obtain ⟨v, z, rfl, hv, rfl, rfl, rfl, rfl⟩ := p_vpop h
      exact lv_pop hx hb hd (p_cv_cat.trans hv) (k ls H locs hl hP hD hS)
    case goto off =>
      obtain ⟨ht, rfl, rfl, rfl, rfl⟩ := p_vgt h
      exact lv_goto hx hb hd ht (k ls H locs hl hP hD hS)
    case if_icmp cnd off =>
      cases cnd
      case eq =>
        obtain ⟨x, y, z, rfl, ht, hq, rfl, rfl, rfl⟩ := p_vb2 h
        refine lv_icmp_eq hx hb hd ht (fun hz => ?_) (fun hz => ?_)
        · rw [show pc1 = p_tg pc off by rw [hq]; simp [hz]] at k
          exact k ls H locs hl hP hD hS
        · rw [show pc1 = pc + 3 by rw [hq]; simp [hz]] at k
          exact k ls H locs hl hP hD hS
      case ne =>
        obtain ⟨x, y, z, rfl, ht, hq, rfl, rfl, rfl⟩ := p_vb2 h
        refine lv_icmp_ne hx hb hd ht (fun hz => ?_) (fun hz => ?_)
        · rw [show pc1 = p_tg pc off by rw [hq]; simp [hz]] at k
          exact k ls H locs hl hP hD hS
        · rw [show pc1 = pc + 3 by rw [hq]; simp [hz]] at k
          exact k ls H locs hl hP hD hS
      case lt =>
        obtain ⟨x, y, z, rfl, ht, hq, rfl, rfl, rfl⟩ := p_vb2 h
        refine lv_icmp_lt hx hb hd ht (fun hz => ?_) (fun hz => ?_)
        · rw [show pc1 = p_tg pc off by rw [hq]; simp [hz]] at k
          exact k ls H locs hl hP hD hS
        · rw [show pc1 = pc + 3 by rw [hq]; simp [hz]] at k
          exact k ls H locs hl hP hD hS
      case ge =>
        obtain ⟨x, y, z, rfl, ht, hq, rfl, rfl, rfl⟩ := p_vb2 h
        refine lv_icmp_ge hx hb hd ht (fun hz => ?_) (fun hz => ?_)
        · rw [show pc1 = p_tg pc off by rw [hq]; simp [hz]] at k
          exact k ls H locs hl hP hD hS
        · rw [show pc1 = pc + 3 by rw [hq]; simp [hz]] at k
          exact k ls H locs hl hP hD hS
      case gt =>
        obtain ⟨x, y, z, rfl, ht, hq, rfl, rfl, rfl⟩ := p_vb2 h
        refine lv_icmp_gt hx hb hd ht (fun hz => ?_) (fun hz => ?_)
        · rw [show pc1 = p_tg pc off by rw [hq]; simp [hz]] at k
          exact k ls H locs hl hP hD hS
        · rw [show pc1 = pc + 3 by rw [hq]; simp [hz]] at k
          exact k ls H locs hl hP hD hS
      case le =>
        obtain ⟨x, y, z, rfl, ht, hq, rfl, rfl, rfl⟩ := p_vb2 h
        refine lv_icmp_le hx hb hd ht (fun hz => ?_) (fun hz => ?_)
        · rw [show pc1 = p_tg pc off by rw [hq]; simp [hz]] at k
          exact k ls H locs hl hP hD hS
        · rw [show pc1 = pc + 3 by rw [hq]; simp [hz]] at k
          exact k ls H locs hl hP hD hS
    case ifCond cnd off =>
      cases cnd
      case eq =>
        obtain ⟨x, z, rfl, ht, hq, rfl, rfl, rfl⟩ := p_vb1 h
        refine lv_if_eq hx hb hd ht (fun hz => ?_) (fun hz => ?_)
        · rw [show pc1 = p_tg pc off by rw [hq]; simp [hz]] at k
          exact k ls H locs hl hP hD hS
        · rw [show pc1 = pc + 3 by rw [hq]; simp [hz]] at k
          exact k ls H locs hl hP hD hS
      case ne =>
        obtain ⟨x, z, rfl, ht, hq, rfl, rfl, rfl⟩ := p_vb1 h
        refine lv_if_ne hx hb hd ht (fun hz => ?_) (fun hz => ?_)
        · rw [show pc1 = p_tg pc off by rw [hq]; simp [hz]] at k
          exact k ls H locs hl hP hD hS
        · rw [show pc1 = pc + 3 by rw [hq]; simp [hz]] at k
          exact k ls H locs hl hP hD hS
      case lt =>
        obtain ⟨x, z, rfl, ht, hq, rfl, rfl, rfl⟩ := p_vb1 h
        refine lv_if_lt hx hb hd ht (fun hz => ?_) (fun hz => ?_)
        · rw [show pc1 = p_tg pc off by rw [hq]; simp [hz]] at k
          exact k ls H locs hl hP hD hS
        · rw [show pc1 = pc + 3 by rw [hq]; simp [hz]] at k
          exact k ls H locs hl hP hD hS
      case ge =>
        obtain ⟨x, z, rfl, ht, hq, rfl, rfl, rfl⟩ := p_vb1 h
        refine lv_if_ge hx hb hd ht (fun hz => ?_) (fun hz => ?_)
        · rw [show pc1 = p_tg pc off by rw [hq]; simp [hz]] at k
          exact k ls H locs hl hP hD hS
        · rw [show pc1 = pc + 3 by rw [hq]; simp [hz]] at k
          exact k ls H locs hl hP hD hS
      case gt =>
        obtain ⟨x, z, rfl, ht, hq, rfl, rfl, rfl⟩ := p_vb1 h
        refine lv_if_gt hx hb hd ht (fun hz => ?_) (fun hz => ?_)
        · rw [show pc1 = p_tg pc off by rw [hq]; simp [hz]] at k
          exact k ls H locs hl hP hD hS
        · rw [show pc1 = pc + 3 by rw [hq]; simp [hz]] at k
          exact k ls H locs hl hP hD hS
      case le =>
        obtain ⟨x, z, rfl, ht, hq, rfl, rfl, rfl⟩ := p_vb1 h
        refine lv_if_le hx hb hd ht (fun hz => ?_) (fun hz => ?_)
        · rw [show pc1 = p_tg pc off by rw [hq]; simp [hz]] at k
          exact k ls H locs hl hP hD hS
        · rw [show pc1 = pc + 3 by rw [hq]; simp [hz]] at k
          exact k ls H locs hl hP hD hS
    case getfield i =>
      obtain ⟨o, z, ci, kk, fs, f, rfl, hf, ho, hk, rfl, rfl, rfl, rfl⟩ := p_vgf h
      obtain ⟨hc6, hfl, -⟩ := p_ob_cls ho
      obtain ⟨hfw, hkN⟩ := p_fldk hf
      exact va_get hx hb hts (p_layc hc6) hown hK hP o (p_cellO ho) (p_cl hc6) kk hkN (hts _ hfw) (fun _ h9 => h9) (by rw [p_fl_get, hk, Nat.zero_add]; rfl) hd (k ls H locs hl hP hD hS)
    case putfield i =>
      obtain ⟨o, z, ci, kk, fs, v, rfl, hf, ho, hk, rfl, rfl, rfl, rfl⟩ := p_vpf h
      obtain ⟨hc6, hfl, hff⟩ := p_ob_cls ho
      obtain ⟨hfw, hkN⟩ := p_fldk hf
      obtain ⟨t0, ht0, hnm⟩ := p_tyc ci
      exact va_put (ty := .int) hx hb hts (p_layc hc6) t0 ht0 hnm hown hK hP hD hS o (p_cellO ho) (p_cl hc6) kk hkN (hts _ hfw) (fun _ h9 => h9) (hff kk hk).2 (by rw [(hff kk hk).1]; rfl) rfl rfl (by rw [p_fl_len]; exact (List.getElem?_eq_some_iff.mp hk).1) hd (fun H1 locs1 hP1 hD1 hS1 => k ls H1 locs1 hl (by rw [← p_w_putf ho hk]; exact hP1) (p_wsD hD) hS1)
    case iaload =>
      obtain ⟨o, i, z, rfl, rfl, rfl, rfl, hh⟩ := p_vald h
      rcases hh with ⟨n, ho, hi, rfl⟩ | ⟨n, xs, rfl, rfl, -, hi, rfl⟩
      · exact va_iald hx hb hK hP o 1 (p_cellA ho (by decide)) p_tys1 hi hd (k ls H locs hl hP hD hS)
      · obtain ⟨hX1, hX2, hX3⟩ := X n xs rfl
        exact va_sld hx hb hX1 hX2 hX3 hS hi hd (k ls H locs hl hP hD hS)
    case arraylength =>
      obtain ⟨o, z, rfl, rfl, rfl, rfl, hh⟩ := p_valen h
      rcases hh with ⟨t, n, ho, rfl⟩ | ⟨n, xs, rfl, rfl, rfl⟩
      · have h4 := p_ob_arr ho
        by_cases ht : t = 2
        · subst ht
          exact va_alen hx hb hK hP o 2 (p_cellJ ho) p_tys2 rfl hd (k ls H locs hl hP hD hS)
        · match t, h4, ht, ho with
          | 0, _, _, ho => exact va_alen hx hb hK hP o 0 (p_cellA ho (by decide)) p_tys0 rfl hd (k ls H locs hl hP hD hS)
          | 1, _, _, ho => exact va_alen hx hb hK hP o 1 (p_cellA ho (by decide)) p_tys1 rfl hd (k ls H locs hl hP hD hS)
          | 3, _, _, ho => exact va_alen hx hb hK hP o 3 (p_cellA ho (by decide)) p_tys3 rfl hd (k ls H locs hl hP hD hS)
      · obtain ⟨hX1, hX2, hX3⟩ := X n xs rfl
        exact va_slen hx hb hX1 hX2 hX3 hS hd (k ls H locs hl hP hD hS)
    case laload =>
      obtain ⟨o, i, z, n, rfl, ho, hi, rfl, rfl, rfl, rfl⟩ := p_vlald h
      exact va_lald hx hb hK hP o 2 (p_cellJ ho) p_tys2 hi hd (k ls H locs hl hP hD hS)
    case baload =>
      obtain ⟨o, i, z, t, n, rfl, ho, ht, hi, rfl, rfl, rfl, rfl⟩ := p_vbald h
      rcases ht with rfl | rfl
      · exact va_bald hx hb hK hP o 0 (p_cellA ho (by decide)) p_tys0 hi hd (k ls H locs hl hP hD hS)
      · exact va_zald hx hb hK hP o 3 (p_cellA ho (by decide)) p_tys3 hi hd (k ls H locs hl hP hD hS)
    case bastore =>
      obtain ⟨o, i, x, z, t, n, rfl, ho, ht, hi, rfl, rfl, rfl, rfl⟩ := p_vbast h
      rcases ht with rfl | rfl
      · exact va_bast hx hb hK hP hD hS o 0 (p_cellA ho (by decide)) p_tys0 hi hd (fun H1 locs1 hP1 hD1 hS1 => k ls H1 locs1 hl (by rw [← p_w_iast ho (by decide)]; exact hP1) (p_wsD hD) hS1)
      · exact va_zast hx hb hK hP hD hS o 3 (p_cellA ho (by decide)) p_tys3 hi hd (fun H1 locs1 hP1 hD1 hS1 => k ls H1 locs1 hl (by rw [← p_w_iast ho (by decide)]; exact hP1) (p_wsD hD) hS1)
    case iastore =>
      obtain ⟨o, i, x, z, n, rfl, ho, hi, rfl, rfl, rfl, rfl⟩ := p_viast h
      exact va_iast hx hb hK hP hD hS o 1 (p_cellA ho (by decide)) p_tys1 hi hd (fun H1 locs1 hP1 hD1 hS1 => k ls H1 locs1 hl (by rw [← p_w_iast ho (by decide)]; exact hP1) (p_wsD hD) hS1)
    case lastore =>
      obtain ⟨o, i, x, z, n, rfl, ho, hi, rfl, rfl, rfl, rfl⟩ := p_vlast h
      exact va_last hx hb hK hP hD hS o 2 (p_cellJ ho) p_tys2 hi hd (fun H1 locs1 hP1 hD1 hS1 => k ls H1 locs1 hl (by rw [← p_w_last ho]; exact hP1) (p_wsD hD) hS1)
    case tableswitch d lo hi os =>
      obtain ⟨x, z, rfl, rfl, rfl, rfl, hh⟩ := p_vswt h
      rcases hh with ⟨h1, h2⟩ | ⟨h1, h2, off, h3, h4⟩
      · exact lv_tableOut hx hb hd h1 h2 (k ls H locs hl hP hD hS)
      · exact lv_tableIn hx hb hd h1 h2 h3 h4 (k ls H locs hl hP hD hS)
    case invokevirtual i =>
      exact absurd (p_viv h).1 (by decide)
    case invokestatic i =>
      obtain ⟨-, hmk, rfl, rfl, rfl, hh⟩ := p_viv h
      simp only [p_mok, Bool.and_eq_true, decide_eq_true_eq] at hmk
      obtain ⟨s1, s4⟩ := p_k7
      have hcs : ∀ z : List Value, ((z.map (p_cv ad)).map fun v => v.category).sum = p_cs z := by
        intro z
        induction z with
        | nil => rfl
        | cons a z ih =>
          simp only [List.map_cons, List.sum_cons, p_cs] at ih ⊢
          rw [ih, p_cv_cat]
      rcases hh with ⟨x, z, n, hv, rfl, hz, rfl⟩ | ⟨x, y, z, n, hv, rfl, hz, rfl⟩ | ⟨x, y, z, mj, n, hv, h0, h1, rfl, hz, rfl⟩
      · have hw := p_ivk hv
        simp only [p_k5b, if_true] at hw
        obtain ⟨q9, hw⟩ := hw
        exact va_mabs_long hx hb (by rw [hml]; exact hn.symm) hown (hts _ (p_hbi_big hw)) (hts _ (p_hb_big s1)) (hts _ (p_hb_big s4)) (hts _ p_k8_abs_long) (by omega) (by rw [hcs]; omega) hc hs hd (k ls H locs hl hP hD hS)
      · have hw := p_ivk hv
        simp [p_k5b] at hw
      · have hw := p_ivk hv
        simp [p_k5b, h0] at hw
    case ireturn => exact absurd h p_irt_no
    case lreturn => exact absurd h p_lrt_no
    case return_ => exact absurd h p_vrt_no
    case new i => exact absurd h p_nw_no
end Steps
end
section
/-! starting text: kit/laws/EXCEPTIONS.to-paste, the calls of a nest mate's methods that may throw -/
section
variable {p : Program} {l : Launch} {e : Env} {R : Room} {s : State} {m : MethodId} {args : Array Value} {below : List Frame} {meth : Method} {c : Code} {H : Heap} {locs : List Loc} {cells slots : Nat}
variable {T : State}
theorem vx_callVN (X : Stand p l e R s m args below meth c T locs cells slots) (hexec : p.tables.exec = Jvm.exec) {own C : String} {index : Nat} {host : String} {y : MethodName} {bytes : ByteArray} {maxL : Nat} {ret : Option FieldType}
    (hown : s.vm.findClass own = some m.cls) (hlink : (Cond.methodLinkNest own index y host).before args s = true) (hinst : (Cond.instanceMethod y).before args s = true) (hsel : (Cond.selects C y y).before args s = true)
    (hcode : (Cond.code y bytes maxL ret).before args s = true) (hy : y.cls ≠ "java/lang/invoke/MethodHandle" ∧ y.cls ≠ "java/lang/invoke/VarHandle")
    {W : Nat} {Pre : Pt → Array Value → Prop} {Post : Pt → Array Value → Option Value → Pt → Prop} {PostX : Pt → Array Value → Addr → Pt → Prop} (hK : vx_Back l R p e below s args y 3 W Pre Post PostX)
    {b : Addr} {cellB : Cell} (hcell : T.heap[b]? = some cellB) (hobj : cellB.vm.isStatics = false) (hcls : s.vm.findClass C = some cellB.cls)
    {g : JFrame} (hg : g.method = m) (hsize : g.locals.size = c.maxLocals) {argsL rest : List Value} (hlen : ∀ sig, parseMethodDescriptor y.desc = some sig → argsL.length = sig.parameters.length)
    (hstack : g.stack = argsL.reverse ++ .ref b :: rest) (hW : 2 * g.monitorRoom + (rest.map fun v => v.category).sum ≤ W) (hdg : decode c.code g.pc = .ok (.invokevirtual index, 3))
    (hpre : ∀ vm₁, s.WarmedH vm₁ → Pre ⟨T.setVm vm₁, locs, cells, slots⟩ (Value.ref b :: argsL).toArray) :
    (∃ (v : Option Value) (vm₁ : Vm) (B : Pt), s.WarmedH vm₁ ∧ Stand p l e R s m args below meth c B.U B.locs B.cells B.slots ∧ Post ⟨T.setVm vm₁, locs, cells, slots⟩ (Value.ref b :: argsL).toArray v B ∧
      ∀ target, Steps p.tables e below (B.U.setTop { g with pc := g.pc + 3, stack := v.toList ++ rest }) target → Steps p.tables e below (T.setTop g) target) ∨
    (∃ (q : Addr) (vm₁ : Vm) (B : Pt), s.WarmedH vm₁ ∧ Stand p l e R s m args below meth c B.U B.locs B.cells B.slots ∧ PostX ⟨T.setVm vm₁, locs, cells, slots⟩ (Value.ref b :: argsL).toArray q B ∧
      Steps p.tables e below (T.setTop g) ((B.U.setTop { g with stack := rest }).pushFrame (.throwing q))) := by
  obtain ⟨mk, methM, hnamed, hmethM, hstM, habM⟩ := Cond.instanceMethod_spec hinst
  obtain ⟨methM', cM, hmethM', -, -, -, -, -, -, hsigM⟩ := Cond.code_spec hnamed hcode
  cases hmethM.symm.trans hmethM'
  obtain ⟨c2, r2, m2, q1, q2, q3, q4, kP, hkP, hkPi⟩ := Cond.selects_spec hsel
  cases hcls.symm.trans q1
  cases (State.methodFound?_of_named hnamed hy).symm.trans q2
  cases hnamed.symm.trans q3
  have hselP : selectMethod e.platform s.vm cellB.cls mk = .method mk := by rw [Launch.admits_selectMethod X.admits]; exact q4
  obtain ⟨vm₁, X₁, hstep₁⟩ := X.invokevirtualNest hexec hown hlink hnamed hmethM hstM hkP hkPi hy (a := b) (cell := cellB) hcell
    (fun z h => by rw [h] at hobj; cases hobj) hselP hmethM habM hkP hkPi (g := g) hg (argsL := argsL) (rest := rest) (hlen _ hsigM) hstack hdg
  rcases hK m meth c ⟨T.setVm vm₁, locs, cells, slots⟩ { g with stack := rest } (.invokevirtual index) mk (Value.ref b :: argsL).toArray X₁ hg hsize hdg hW (X₁.named hnamed) (hpre vm₁ X₁.warmed) with ⟨v, B, X', hpost, hsteps⟩ | ⟨q, B, X', hpost, hsteps⟩
  · exact Or.inl ⟨v, vm₁, B, X₁.warmed, X', hpost, fun target h => hstep₁ _ fun acts => by rw [doInvoke_state]; exact hsteps.trans h⟩
  · exact Or.inr ⟨q, vm₁, B, X₁.warmed, X', hpost, hstep₁ _ fun acts => by rw [doInvoke_state]; exact hsteps⟩
theorem vx_callSN (X : Stand p l e R s m args below meth c T locs cells slots) (hexec : p.tables.exec = Jvm.exec) {own : String} {index : Nat} {host : String} {y : MethodName} {bytes : ByteArray} {maxL : Nat} {ret : Option FieldType}
    (hown : s.vm.findClass own = some m.cls) (hlink : (Cond.methodLinkNest own index y host).before args s = true) (hstat : (Cond.static y).before args s = true) (hinit : (Cond.initialized y.cls).before args s = true)
    (hcode : (Cond.code y bytes maxL ret).before args s = true) (hy : y.cls ≠ "java/lang/invoke/MethodHandle" ∧ y.cls ≠ "java/lang/invoke/VarHandle")
    {W : Nat} {Pre : Pt → Array Value → Prop} {Post : Pt → Array Value → Option Value → Pt → Prop} {PostX : Pt → Array Value → Addr → Pt → Prop} (hK : vx_Back l R p e below s args y 3 W Pre Post PostX)
    {g : JFrame} (hg : g.method = m) (hsize : g.locals.size = c.maxLocals) {argsL rest : List Value} (hlen : ∀ sig, parseMethodDescriptor y.desc = some sig → argsL.length = sig.parameters.length)
    (hstack : g.stack = argsL.reverse ++ rest) (hW : 2 * g.monitorRoom + (rest.map fun v => v.category).sum ≤ W) (hdg : decode c.code g.pc = .ok (.invokestatic index, 3))
    (hpre : ∀ vm₁, s.WarmedH vm₁ → Pre ⟨T.setVm vm₁, locs, cells, slots⟩ argsL.toArray) :
    (∃ (v : Option Value) (vm₁ : Vm) (B : Pt), s.WarmedH vm₁ ∧ Stand p l e R s m args below meth c B.U B.locs B.cells B.slots ∧ Post ⟨T.setVm vm₁, locs, cells, slots⟩ argsL.toArray v B ∧
      ∀ target, Steps p.tables e below (B.U.setTop { g with pc := g.pc + 3, stack := v.toList ++ rest }) target → Steps p.tables e below (T.setTop g) target) ∨
    (∃ (q : Addr) (vm₁ : Vm) (B : Pt), s.WarmedH vm₁ ∧ Stand p l e R s m args below meth c B.U B.locs B.cells B.slots ∧ PostX ⟨T.setVm vm₁, locs, cells, slots⟩ argsL.toArray q B ∧
      Steps p.tables e below (T.setTop g) ((B.U.setTop { g with stack := rest }).pushFrame (.throwing q))) := by
  obtain ⟨mk, hnamed⟩ := Cond.code_named hcode
  obtain ⟨methM, cM, hmethM, -, -, -, -, -, -, hsigM⟩ := Cond.code_spec hnamed hcode
  have hstatic : methM.isStatic = true := Cond.static_spec hnamed hmethM hstat
  obtain ⟨kP, hkP, -⟩ := className_of_methodNamed hnamed
  have hinitP : kP.init = .initialized := Cond.initialized_spec (findClass_of_methodNamed hnamed) hkP hinit
  obtain ⟨vm₁, X₁, hstep₁⟩ := X.invokestaticNest hexec hown hlink hnamed hmethM hstatic hkP hinitP hy (g := g) hg (argsL := argsL) (rest := rest) (hlen _ hsigM) hstack hdg
  rcases hK m meth c ⟨T.setVm vm₁, locs, cells, slots⟩ { g with stack := rest } (.invokestatic index) mk argsL.toArray X₁ hg hsize hdg hW (X₁.named hnamed) (hpre vm₁ X₁.warmed) with ⟨v, B, X', hpost, hsteps⟩ | ⟨q, B, X', hpost, hsteps⟩
  · exact Or.inl ⟨v, vm₁, B, X₁.warmed, X', hpost, fun target h => hstep₁ _ fun acts => by rw [doInvoke_state]; exact hsteps.trans h⟩
  · exact Or.inr ⟨q, vm₁, B, X₁.warmed, X', hpost, hstep₁ _ fun acts => by rw [doInvoke_state]; exact hsteps⟩
theorem vx_runVN {y : MethodName} {bytes cc : ByteArray} {maxL nL mc ms n index : Nat} {ret : Option FieldType} {ws : List Cond} {rm : Room} {Pc : Array Value → State → Prop} {Qc : Array Value → State → Outcome → State → Prop} {XC : String → State → State → Prop} {free : Addr → Prop} {Ts : List Cond} {own C host : String} {b : Addr} {As rest : List Value} {g : JFrame}
    (S : CallFix p m c cc nL s args Ts own) (hM : vx_Met l y ws rm Pc Qc XC mc ms free) (cw : va_CN R s args own index y host bytes maxL ret ws rm mc ms n ∧ (Cond.instanceMethod y).before args s = true ∧ (Cond.selects C y y).before args s = true) (hp : PreV s H C b Pc As)
    (hg : g.method = m) (hn : As.length = n) (hsize : g.locals.size = nL) (hstack : g.stack = As.reverse ++ .ref b :: rest) (hW : 2 * g.monitorRoom + (rest.map fun v => v.category).sum ≤ 8) (hdg : decode cc g.pc = .ok (.invokevirtual index, 3)) (hf : cells + mc ≤ R.cells ∧ slots + ms ≤ R.slots) :
    vx_Run p l e R s m args below meth c H locs cells slots mc ms g rest (Qc (Value.ref b :: As).toArray) XC free := by
  obtain ⟨⟨⟨hrc, hrs, hfr, hlo, hws, hcw⟩, hcode, hini, hy, hlen, hl⟩, hx1, hx2⟩ := cw
  have hK : vx_Back l R p e below s args y 3 8 (PreOf R mc ms Pc) (PostOf Qc mc ms free) (vx_Post XC mc ms free) := vx_back (bytes := bytes) (maxL := maxL) (ret := ret) hM hp.1 hrc hrs hfr hlo hws hcw (fun a' U hW => word_at hW (Or.inl (by first | rfl | simp [Cond.onTables, Cond.keeps, Cond.steady])) hini)
  obtain ⟨hx, hb, hml, ho, -⟩ := S
  obtain ⟨-, ⟨cellB, hcB, hoB, hclB⟩, hPc⟩ := hp
  intro T hT X
  rcases vx_callVN X hx (C := C) (bytes := bytes) (maxL := maxL) (ret := ret) ho hl hx1 hx2 hcode hy hK (by rw [hT]; exact hcB) hoB hclB hg (hsize.trans hml.symm) (argsL := As) (rest := rest) (fun sig h => hn.trans (hlen sig h)) hstack hW (by rw [hb]; exact hdg)
    (fun vm₁ hW₁ => ⟨hf.1, hf.2, hPc (T.setVm vm₁) hT hW₁⟩) with ⟨v, vm₁, ⟨U', l2, c2, s2⟩, hW₁, X', ⟨g', mk, t, L, e1, e2, hq, h1, hL, h2, h3⟩, st⟩ | ⟨q, vm₁, ⟨U', l2, c2, s2⟩, hW₁, X', ⟨g', mk, t, L, E, ce, e1, e2, hq, hce, hcv, hcl, h1, hL, h2, h3⟩, st⟩
  · dsimp only [Pt.U, Pt.locs, Pt.cells, Pt.slots] at X' e1 e2 h1 h2 h3 st
    subst h1; subst h2; subst h3
    exact Or.inl ⟨v, (T.setVm vm₁).calling g' mk (Value.ref b :: As).toArray, t, U', L, hT, X', hL, e1, e2, hq, st⟩
  · dsimp only [Pt.U, Pt.locs, Pt.cells, Pt.slots] at X' e1 e2 h1 h2 h3 st hcl
    subst h1; subst h2; subst h3
    exact Or.inr ⟨q, (T.setVm vm₁).calling g' mk (Value.ref b :: As).toArray, t, U', L, E, ce, hT, X', hL, e1, e2, hq, hce, hcv, vx_cls hW₁ hcl, st⟩
theorem vx_runSN {y : MethodName} {bytes cc : ByteArray} {maxL nL mc ms n index : Nat} {ret : Option FieldType} {ws : List Cond} {rm : Room} {Pc : Array Value → State → Prop} {Qc : Array Value → State → Outcome → State → Prop} {XC : String → State → State → Prop} {free : Addr → Prop} {Ts : List Cond} {own host : String} {As rest : List Value} {g : JFrame}
    (S : CallFix p m c cc nL s args Ts own) (hM : vx_Met l y ws rm Pc Qc XC mc ms free) (cw : va_CN R s args own index y host bytes maxL ret ws rm mc ms n ∧ (Cond.static y).before args s = true ∧ True) (hp : PreS s H Pc As)
    (hg : g.method = m) (hn : As.length = n) (hsize : g.locals.size = nL) (hstack : g.stack = As.reverse ++ rest) (hW : 2 * g.monitorRoom + (rest.map fun v => v.category).sum ≤ 8) (hdg : decode cc g.pc = .ok (.invokestatic index, 3)) (hf : cells + mc ≤ R.cells ∧ slots + ms ≤ R.slots) :
    vx_Run p l e R s m args below meth c H locs cells slots mc ms g rest (Qc As.toArray) XC free := by
  obtain ⟨⟨⟨hrc, hrs, hfr, hlo, hws, hcw⟩, hcode, hini, hy, hlen, hl⟩, hx1, hx2⟩ := cw
  have hK : vx_Back l R p e below s args y 3 8 (PreOf R mc ms Pc) (PostOf Qc mc ms free) (vx_Post XC mc ms free) := vx_back (bytes := bytes) (maxL := maxL) (ret := ret) hM hp.1 hrc hrs hfr hlo hws hcw (fun a' U hW => word_at hW (Or.inl (by first | rfl | simp [Cond.onTables, Cond.keeps, Cond.steady])) hini)
  obtain ⟨hx, hb, hml, ho, -⟩ := S
  have hPc := hp.2
  intro T hT X
  rcases vx_callSN X hx (bytes := bytes) (maxL := maxL) (ret := ret) ho hl hx1 hini hcode hy hK hg (hsize.trans hml.symm) (argsL := As) (rest := rest) (fun sig h => hn.trans (hlen sig h)) hstack hW (by rw [hb]; exact hdg)
    (fun vm₁ hW₁ => ⟨hf.1, hf.2, hPc (T.setVm vm₁) hT hW₁⟩) with ⟨v, vm₁, ⟨U', l2, c2, s2⟩, hW₁, X', ⟨g', mk, t, L, e1, e2, hq, h1, hL, h2, h3⟩, st⟩ | ⟨q, vm₁, ⟨U', l2, c2, s2⟩, hW₁, X', ⟨g', mk, t, L, E, ce, e1, e2, hq, hce, hcv, hcl, h1, hL, h2, h3⟩, st⟩
  · dsimp only [Pt.U, Pt.locs, Pt.cells, Pt.slots] at X' e1 e2 h1 h2 h3 st
    subst h1; subst h2; subst h3
    exact Or.inl ⟨v, (T.setVm vm₁).calling g' mk As.toArray, t, U', L, hT, X', hL, e1, e2, hq, st⟩
  · dsimp only [Pt.U, Pt.locs, Pt.cells, Pt.slots] at X' e1 e2 h1 h2 h3 st hcl
    subst h1; subst h2; subst h3
    exact Or.inr ⟨q, (T.setVm vm₁).calling g' mk As.toArray, t, U', L, E, ce, hT, X', hL, e1, e2, hq, hce, hcv, vx_cls hW₁ hcl, st⟩
end
end
section
/-! CONTRACTS AND CALLS -/
theorem p_xx_same {A : Nat → Prop} {u U : State} {H : Heap} (hv : u.vm = U.vm) (h : p_xx A u H) : p_xx A U H := by
  obtain ⟨h1, h2, h3, h4, h5, h6⟩ := h
  have hal : u.vm.Alike U.vm := by rw [hv]; exact Vm.Alike.refl U.vm
  exact ⟨fun q hq => (h1 q hq).imp fun sa z => vk_R.same hv.symm z, vx_Zq.moved hal h2, vx_Zq.moved hal h3, fun w hw => va_tabs (p_xB_on w hw) hv (h4 w hw), va_Nw.same rfl hv h5, fun E hE F hF hEF => (h6 E hE F hF hEF).moved hal⟩
theorem p_xx_warm {A : Nat → Prop} {s U : State} {H : Heap} (hW : s.WarmedH U.vm) (h : p_xx A s H) : p_xx A U H := by
  obtain ⟨h1, h2, h3, h4, h5, h6⟩ := h
  refine ⟨fun q hq => (h1 q hq).imp fun sa z => vk_R.warm hW z, vx_Zq.moved hW.alike h2, vx_Zq.moved hW.alike h3, fun w hw => ?_, va_Nw.warmM hW h5, fun E hE F hF hEF => (h6 E hE F hF hEF).moved hW.alike⟩
  rcases p_xB_kinds w hw with ⟨X, Y, rfl⟩ | ⟨x, rfl⟩
  · have h7 : (Cond.castable X Y).before #[] (s.setVm U.vm) = true := by rw [Cond.castable_setVm hW.alike]; exact h4 _ hw
    exact va_tabs rfl (rfl : (s.setVm U.vm).vm = U.vm) h7
  · exact va_Nw.warmD hW (h4 _ hw)
theorem p_xx_kept {A : Nat → Prop} {U : State} {H H1 : Heap} (h : p_xx A U H) (hq : ∀ a : Nat, a < H.size → ¬ A a → H1[a]? = H[a]?) : p_xx A U H1 := by
  obtain ⟨h1, h2, h3, h4⟩ := h
  exact ⟨h1, h2.kept hq, h3.kept hq, h4⟩
theorem p_xx_nar {A B : Nat → Prop} {U : State} {H : Heap} (h : p_xx A U H) (hAB : ∀ q, B q → A q) : p_xx B U H := by
  obtain ⟨h1, h2, h3, h4⟩ := h
  exact ⟨h1, h2.narrow hAB, h3.narrow hAB, h4⟩
def p_QC (D : va_G) (ty : Nat → ClassId) (ad : Nat → Nat) (A : Nat → Prop) (r : pR) : Array Value → State → Outcome → State → Prop := fun _ st oc t => (∃ v, r.1 = .inl v ∧ oc = .returned (v.map (p_cv ad)) ∧ va_P D vwCl (p_ws ad ty r.2.1) t.heap) ∧ va_F A st t
def p_XC (D : va_G) (ty : Nat → ClassId) (ad : Nat → Nat) (A : Nat → Prop) (r : pR) : String → State → State → Prop := fun E st t => (∃ i, i < 3 ∧ r.1 = .inr (.inl i) ∧ E = p_xn i ∧ va_P D vwCl (p_ws ad ty r.2.1) t.heap) ∧ va_F A st t
def p_rm (mi k : Nat) : Room := { frames := p_rF mi, cells := k, slots := 6 * k, locals := p_rL mi }
def p_Pc (D : va_G) (ty : Nat → ClassId) (ad : Nat → Nat) (as : List Value) (w : pW) (sz : Nat) : Array Value → State → Prop := va_Pc (as.map (p_cv ad)) (fun U => U.heap.size = sz ∧ va_P D vwCl (p_ws ad ty w) U.heap ∧ va_K D vwCl (p_tys ty) U ∧ va_D (fun _ => True) (p_ws ad ty w) ∧ p_xx (va_A (p_ws ad ty w) sz) U U.heap)
def p_Ct (l : Launch) (D : va_G) (ty : Nat → ClassId) (ad : Nat → Nat) (mi : Nat) (as : List Value) (w : pW) (r : pR) : Prop :=
  ∀ sz : Nat, vx_Met l (p_y mi) (p_cw mi :: p_big) (p_rm mi r.2.2) (p_Pc D ty ad as w sz) (p_QC D ty ad (va_A (p_ws ad ty w) sz) r) (p_XC D ty ad (va_A (p_ws ad ty w) sz) r) r.2.2 (6 * r.2.2) (va_A (p_ws ad ty w) sz)
theorem p_Pc_blind {D : va_G} {ty : Nat → ClassId} {ad : Nat → Nat} {as : List Value} {w : pW} {sz : Nat} : FrameBlind (p_Pc D ty ad as w sz) := by
  intro a U g mk q
  obtain ⟨q0, q1, qP, qK, qD, qX⟩ := q
  exact ⟨q0, q1, qP, va_K.moved (u := U) (U := U.calling g mk a) (Vm.Alike.refl U.vm) qK, qD, p_xx_same (u := U) (U := U.calling g mk a) rfl qX⟩
theorem p_big_good : ∀ w ∈ p_big, w ∈ p_big ∧ ((w.onTables && w.keeps) = true ∨ ∃ ty, w = .arrayClass ty) := fun w hw => ⟨hw, good_of_word (List.mem_filter.mp hw).2⟩
theorem p_goodIn {mj : Nat} (h : mj ∈ p_ms) : GoodIn p_big (p_cw mj :: p_big) := by
  intro w hw
  rcases List.mem_cons.mp hw with rfl | hw
  · obtain ⟨h1, h2⟩ := p_cw_ok mj h
    exact p_big_good _ (List.mem_filter.mpr ⟨h1, h2⟩)
  · exact p_big_good w hw
theorem p_msk {mj : Nat} (h : mj ∈ p_ms) : (Cond.initialized (p_y mj).cls ∈ p_big) ∧ (p_virt mj = true → Cond.instanceMethod (p_y mj) ∈ p_big ∧ Cond.selects (p_y mj).cls (p_y mj) (p_y mj) ∈ p_big) ∧ (p_virt mj = false → Cond.static (p_y mj) ∈ p_big) ∧ ((p_y mj).cls ≠ "java/lang/invoke/MethodHandle" ∧ (p_y mj).cls ≠ "java/lang/invoke/VarHandle") ∧ plainName (p_y mj).cls = true ∧ (p_y mj).cls = p_nm (p_own mj) := by
  obtain ⟨x, hx⟩ := p_zipm p_msi p_ms p_k6l h
  have h1 := List.all_eq_true.mp p_k6 _ hx
  simp only [p_k6b, Bool.and_eq_true, decide_eq_true_eq] at h1
  obtain ⟨⟨⟨⟨⟨a1, a2⟩, a3⟩, a4⟩, a5⟩, a6⟩ := h1
  refine ⟨p_hbi_big a1, fun hv => ?_, fun hv => ?_, a3, a4, a5⟩
  · rw [hv] at a2
    simp only [if_true, Bool.and_eq_true] at a2
    exact ⟨p_hbi_big a2.1, p_hbi_big a2.2⟩
  · rw [hv] at a2
    simp only [Bool.false_eq_true, if_false] at a2
    exact p_hbi_big a2
section Calls
variable {p : Program} {l : Launch} {e : Env} {R : Room} {s : State} {m : MethodId} {args : Array Value} {below : List Frame} {meth : Method} {c : Code} {cells slots : Nat} {Q : State → Prop} {D : va_G} {ty : Nat → ClassId} {ad : Nat → Nat} {A : Nat → Prop} {scr : pX} {mi pc pc1 mj : Nat} {L L1 st st1 as rest : List Value} {w w1 : pW}
theorem p_vivc {virt : Bool} {idx : Nat} (h : p_iv virt mi idx pc L st w = some (.inr (.inr (mj, as, rest)))) : ∃ one n, one ≠ 0 ∧ p_inv (p_own mi) idx = some (one, mj, n) ∧ n ≤ st.length ∧ p_cs rest ≤ 8 ∧ p_fits mi mj = true ∧ p_virt mj = virt ∧ p_cs as ≤ p_ml mj ∧ as = (st.take n).reverse ∧ rest = st.drop n ∧ (virt = true → ∃ o tl fs, as = .ref o :: tl ∧ p_ob o = some (.inr (p_own mj, fs))) := by
  unfold p_iv at h
  split at h
  · split at h
    · split at h <;> simp [p_J] at h
    · simp at h
  · split at h
    · split at h <;> simp [p_J] at h
    · simp at h
  · split at h
    · split at h <;> simp [p_J] at h
    · simp at h
  · next one mj1 n h00 h01 h0 hi =>
    split at h
    · next hc =>
      obtain ⟨c1, c2, c3, c4, c5⟩ := hc
      have hone : one ≠ 0 := h0
      split at h
      · next hv =>
        split at h
        · next o tl ho =>
          split at h
          · next cj fs hob =>
            split at h
            · next hcj =>
              simp only [Option.some.injEq, Sum.inr.injEq, Prod.mk.injEq] at h
              obtain ⟨rfl, rfl, rfl⟩ := h
              exact ⟨one, n, hone, hi, c1, c2, c3, c4, c5, rfl, rfl, fun _ => ⟨o, tl, fs, ho, by rw [← hcj]; exact hob⟩⟩
            · simp at h
          · simp at h
        · simp at h
      · next hv =>
        simp only [Option.some.injEq, Sum.inr.injEq, Prod.mk.injEq] at h
        obtain ⟨rfl, rfl, rfl⟩ := h
        exact ⟨one, n, hone, hi, c1, c2, c3, c4, c5, rfl, rfl, fun z => absurd z hv⟩
    · simp at h
  · simp at h
theorem p_stp_call (h : p_stp scr mi pc L st w = some (.inr (.inr (mj, as, rest)))) : ∃ idx, (p_at mi pc = some (.invokevirtual idx) ∧ p_iv true mi idx pc L st w = some (.inr (.inr (mj, as, rest)))) ∨ (p_at mi pc = some (.invokestatic idx) ∧ p_iv false mi idx pc L st w = some (.inr (.inr (mj, as, rest)))) := by
  unfold p_stp at h
  cases hat : p_at mi pc with
  | none => rw [hat] at h; simp at h
  | some ins =>
    rw [hat] at h
    dsimp only at h
    cases ins <;> first
      | (exact absurd h (show ¬ ((none : Option pS) = _) from fun z => by cases z))
      | (exact ⟨_, Or.inl ⟨rfl, h⟩⟩)
      | (exact ⟨_, Or.inr ⟨rfl, h⟩⟩)
      | (exfalso; revert h; simp only [p_ex, p_lI, p_lJ, p_lA, p_sI, p_sJ, p_i1, p_i2, p_i2z, p_l1, p_l2, p_l2z, p_lsh, p_gf, p_pf, p_ald, p_lald, p_bald, p_bast, p_iast, p_last, p_alen, p_nw, p_irt, p_lrt, p_vrt, p_swt, p_gt, p_dup, p_dup2, p_pop, p_inc, p_J, p_D]; (repeat' split) <;> simp; done)
      | (rename_i cnd off; cases cnd <;> (exfalso; revert h; simp only [p_ex, p_b2, p_b1, p_J]; (repeat' split) <;> simp; done))
end Calls
end
section
/-! THE CALL, THE END, AND THE WHOLE RUN -/
theorem p_vhh : p_ms.all (fun m => !(p_virt m) || decide (p_hh m = [])) = true := by decide +kernel
theorem p_callk {mi idx one mj n : Nat} (h1 : one ≠ 0) (h : p_inv (p_own mi) idx = some (one, mj, n)) : mj ∈ p_ms ∧ (False ∨ Cond.methodLink (p_nm (p_own mi)) idx (p_y mj) ∈ p_big) ∧ (parseMethodDescriptor (p_y mj).desc).map (fun d => d.parameters.length + (if p_virt mj = true then 1 else 0)) = some n := by
  obtain ⟨x, hx⟩ := p_ivk h
  simp only [p_k5b, h1, if_false, Bool.and_eq_true, decide_eq_true_eq] at hx
  obtain ⟨⟨a1, a2⟩, a3⟩ := hx
  refine ⟨a1, ?_, a3⟩
  exact Or.inr (p_hbi_big a2)
section Calls2
variable {p : Program} {l : Launch} {e : Env} {R : Room} {s : State} {m : MethodId} {args : Array Value} {below : List Frame} {meth : Method} {c : Code} {cells slots : Nat} {Q : State → Prop} {D : va_G} {ty : Nat → ClassId} {ad : Nat → Nat} {A : Nat → Prop} {scr : pX} {mi pc pc1 mj : Nat} {L L1 st st1 as rest : List Value} {w w1 : pW}
theorem p_vcat (z : List Value) : ((z.map (p_cv ad)).map fun v => v.category).sum = p_cs z := by
  induction z with
  | nil => rfl
  | cons a z ih =>
    simp only [List.map_cons, List.sum_cons, p_cs] at ih ⊢
    rw [ih, p_cv_cat]
/-- behind a call's run: it has returned, or thrown -/
theorem p_after {H : Heap} {locs : List Loc} {ls : Array Slot} {stk : List Value} {r : pR} {a : Array Value} {A1 : Nat → Prop} (hl : p_lh ad ls (p_ml mi) L) (hD : va_D A (p_ws ad ty w)) (hS : va_S A s.heap H locs) (hA1 : ∀ q, A1 q → A q)
    (hr : vx_Run p l e R s m args below meth c H locs cells slots r.2.2 (6 * r.2.2) (F0 m pc ls stk) (rest.map (p_cv ad)) (p_QC D ty ad A1 r a) (p_XC D ty ad A1 r) A1)
    (kv : ∀ v, r.1 = .inl v → p_K p l e R s m args below meth c (cells + r.2.2) (slots + 6 * r.2.2) Q D ty ad A mi (pc + 3) L (v.toList ++ rest) r.2.1)
    (kx : ∀ i, i < 3 → r.1 = .inr (.inl i) → ∀ (H1 : Heap) (locs1 : List Loc) (ce : Cell) (q : Addr), va_P D vwCl (p_ws ad ty r.2.1) H1 → va_S A s.heap H1 locs1 → H1[q]? = some ce → ce.vm = .none → s.vm.findClass (p_xn i) = some ce.cls → vx_W p l e R s m args below meth c H1 locs1 (cells + r.2.2) (slots + 6 * r.2.2) Q (F0 m pc ls (rest.map (p_cv ad))) q) :
    W p l e R s m args below meth c H locs cells slots Q (F0 m pc ls stk) := by
  intro T hT X
  rcases hr T hT X with ⟨v, st₀, t, T', L0, h0, X', hL, e1, e2, ⟨⟨v0, hr1, hv, hP1⟩, hF⟩, stp⟩ | ⟨q, st₀, t, T', L0, E, ce, h0, X', hL, e1, e2, ⟨⟨i, hi3, hr1, rfl, hP1⟩, hF⟩, hce, hcv, hcl, stp⟩
  · cases hv
    obtain ⟨k1, k2, k3⟩ := vx_keep h0 e1 hS (fun q _ h => hA1 q h) hA1 hL hF
    obtain ⟨t2, a1, b1⟩ := kv v0 hr1 ls T'.heap (locs ++ L0) hl (by rw [e1]; exact hP1) (p_wsD hD) k3 T' rfl X'
    refine ⟨t2, stp t2 ?_, b1⟩
    cases v0 <;> exact a1
  · obtain ⟨k1, k2, k3⟩ := vx_keep h0 e1 hS (fun q _ h => hA1 q h) hA1 hL hF
    obtain ⟨t2, a1, b1⟩ := kx i hi3 hr1 T'.heap (locs ++ L0) ce q (by rw [e1]; exact hP1) k3 (by rw [e1]; exact hce) hcv hcl T' rfl X'
    exact ⟨t2, stp.trans a1, b1⟩
/-- what a callee may count on -/
theorem p_pre (V : p_Wd D ty A s) {H : Heap} {locs : List Loc} (hP : va_P D vwCl (p_ws ad ty w) H) (hD : va_D A (p_ws ad ty w)) (hS : va_S A s.heap H locs) {U : State} (hU : U.heap = H) (hW : s.WarmedH U.vm) : p_Pc D ty ad as w H.size (as.map (p_cv ad)).toArray U := by
  obtain ⟨hK, hA, hxx⟩ := V
  refine ⟨rfl, by rw [hU], by rw [hU]; exact hP, va_K.moved hW.alike hK, hD.weaken (fun _ _ _ _ => trivial), ?_⟩
  have h1 := p_xx_warm hW hxx
  have h2 : p_xx A U U.heap := p_xx_kept h1 (fun a ha hn => by rw [hU]; exact hS.2.1 a ha hn)
  refine p_xx_nar h2 (fun q hq => ?_)
  rcases hq with ⟨k, z, hz⟩ | hq
  · exact hD.2 k _ hz
  · exact hA q (Nat.le_trans hS.1 hq)
theorem p_A1 (V : p_Wd D ty A s) {H : Heap} {locs : List Loc} (hD : va_D A (p_ws ad ty w)) (hS : va_S A s.heap H locs) : ∀ q, va_A (p_ws ad ty w) H.size q → A q := by
  intro q hq
  rcases hq with ⟨k, z, hz⟩ | hq
  · exact hD.2 k _ hz
  · exact V.2.1 q (Nat.le_trans hS.1 hq)
set_option maxHeartbeats 4000000 in
theorem p_snd_call (C : p_Cx l R p s m args meth c mi) (V : p_Wd D ty A s) (h : p_stp scr mi pc L st w = some (.inr (.inr (mj, as, rest)))) {r : pR} (hct : mj ∈ p_ms → p_cs as ≤ p_ml mj → p_Ct l D ty ad mj as w r) (hf : cells + r.2.2 ≤ R.cells ∧ slots + 6 * r.2.2 ≤ R.slots)
    (kv : ∀ v, r.1 = .inl v → p_K p l e R s m args below meth c (cells + r.2.2) (slots + 6 * r.2.2) Q D ty ad A mi (pc + 3) L (v.toList ++ rest) r.2.1)
    (kx : ∀ i, i < 3 → r.1 = .inr (.inl i) → ∀ (ls : Array Slot) (H1 : Heap) (locs1 : List Loc) (ce : Cell) (q : Addr), p_lh ad ls (p_ml mi) L → va_P D vwCl (p_ws ad ty r.2.1) H1 → va_D A (p_ws ad ty r.2.1) → va_S A s.heap H1 locs1 → H1[q]? = some ce → ce.vm = .none → s.vm.findClass (p_xn i) = some ce.cls → vx_W p l e R s m args below meth c H1 locs1 (cells + r.2.2) (slots + 6 * r.2.2) Q (F0 m pc ls (rest.map (p_cv ad))) q) :
    p_K p l e R s m args below meth c cells slots Q D ty ad A mi pc L st w := by
  intro ls H locs hl hP hD hS
  have hVV := V
  obtain ⟨hK, hA, hxx⟩ := V
  obtain ⟨hx, hb, hml, hown, hts, hlk, hrt, hRF, hRL, hst0, htab⟩ := C
  have hsz : ls.size = p_ml mi := hl.2.1
  have kx' : ∀ i, i < 3 → r.1 = .inr (.inl i) → ∀ (H1 : Heap) (locs1 : List Loc) (ce : Cell) (q : Addr), va_P D vwCl (p_ws ad ty r.2.1) H1 → va_S A s.heap H1 locs1 → H1[q]? = some ce → ce.vm = .none → s.vm.findClass (p_xn i) = some ce.cls → vx_W p l e R s m args below meth c H1 locs1 (cells + r.2.2) (slots + 6 * r.2.2) Q (F0 m pc ls (rest.map (p_cv ad))) q :=
    fun i hi hr H1 locs1 ce q g1 g2 g3 g4 g5 => kx i hi hr ls H1 locs1 ce q hl g1 (p_wsD hD) g2 g3 g4 g5
  have hA1 := p_A1 hVV hD hS
  have hpay := fun (hm : mj ∈ p_ms) => pay_in hts (p_goodIn hm)
  obtain ⟨idx, hh⟩ := p_stp_call h
  have hfr : p_fits mi mj = true → p_rF mj + 1 ≤ R.frames ∧ 8 + (p_ml mj + 11) + p_rL mj ≤ R.locals := fun z => by
    simp only [p_fits, Bool.and_eq_true, decide_eq_true_eq] at z
    omega
  have hmon : ∀ stk : List Value, 2 * (F0 m pc ls stk).monitorRoom = 0 := fun stk => rfl
  rcases hh with ⟨hat, hv⟩ | ⟨hat, hv⟩
  · have hd := p_dec hat
    obtain ⟨one, n, h1, hi, c1, c2, c3, c4, c5, c6, c7, c8⟩ := p_vivc hv
    obtain ⟨hm, hlk2, hpar⟩ := p_callk h1 hi
    obtain ⟨o, tl, fs, ho1, ho2⟩ := c8 rfl
    obtain ⟨q1, q2, q3, q4, q5, q6⟩ := p_msk hm
    have hhn : p_hh mj = [] := by
      have z := List.all_eq_true.mp p_vhh mj hm
      rw [c4] at z
      simpa using z
    have hcw : p_cw mj = .code (p_y mj) (p_b mj) (p_ml mj) (p_rt mj) := by unfold p_cw; rw [hhn]
    have hlk3 : Cond.methodLink (p_nm (p_own mi)) idx (p_y mj) ∈ p_big := by
      rcases hlk2 with z | z
      · exact absurd z id
      · exact z
    obtain ⟨hob6, -, -⟩ := p_ob_cls ho2
    have hlen : as.length = n := by rw [c6, List.length_reverse, List.length_take]; omega
    have hstk : st.map (p_cv ad) = (tl.map (p_cv ad)).reverse ++ .ref (ad o) :: rest.map (p_cv ad) := by
      have e1 : st = (.ref o :: tl).reverse ++ rest := by rw [← ho1, c6, List.reverse_reverse, c7, List.take_append_drop]
      rw [e1]
      simp [p_cv]
    have hsig : ∀ sig, parseMethodDescriptor (p_y mj).desc = some sig → tl.length = sig.parameters.length := by
      intro sig hs2
      rw [hs2, c4] at hpar
      simp only [Option.map_some, if_true, Option.some.injEq] at hpar
      rw [ho1] at hlen
      simp only [List.length_cons] at hlen
      omega
    have hcs : p_cs as ≤ p_ml mj := c5
    refine p_after (a := (Value.ref (ad o) :: tl.map (p_cv ad)).toArray) hl hD hS hA1 ?_ kv kx'
    have hM := hct hm hcs H.size
    rw [hstk]
    exact vx_runV (y := p_y mj) (bytes := p_b mj) (maxL := p_ml mj) (ret := p_rt mj) (n := tl.length) (nL := p_ml mi) (C := (p_y mj).cls) ⟨hx, hb, hml, hown, hts⟩ hM
      ⟨⟨rfl, rfl, (hfr c3).1, (hfr c3).2, hpay hm, by rw [← hcw]; exact List.mem_cons_self, by rw [← hcw]; exact hts _ ((p_goodIn hm) _ List.mem_cons_self).1, hts _ q1, q4, hsig, hts _ hlk3⟩, hts _ (q2 c4).1, hts _ (q2 c4).2⟩
      ⟨p_Pc_blind, (by
          have z := va_recv hK hP (p_cl hob6) (p_cellO ho2)
          rw [q6]; exact z), fun U hU hW => by
          have z := p_pre (as := as) hVV hP hD hS hU hW
          rw [ho1] at z
          rw [ho1]; exact z⟩
      rfl (by rw [List.length_map]) hsz rfl (by rw [hmon, p_vcat]; omega) hd hf
  · have hd := p_dec hat
    obtain ⟨one, n, h1, hi, c1, c2, c3, c4, c5, c6, c7, -⟩ := p_vivc hv
    obtain ⟨hm, hlk2, hpar⟩ := p_callk h1 hi
    obtain ⟨q1, q2, q3, q4, q5, q6⟩ := p_msk hm
    have hlen : as.length = n := by rw [c6, List.length_reverse, List.length_take]; omega
    have hstk : st.map (p_cv ad) = (as.map (p_cv ad)).reverse ++ rest.map (p_cv ad) := by
      have e1 : st = as.reverse ++ rest := by rw [c6, List.reverse_reverse, c7, List.take_append_drop]
      rw [e1]
      simp
    have hsig : ∀ sig, parseMethodDescriptor (p_y mj).desc = some sig → n = sig.parameters.length := by
      intro sig hs2
      rw [hs2, c4] at hpar
      simp only [Option.map_some, Bool.false_eq_true, if_false, Option.some.injEq] at hpar
      omega
    refine p_after (a := (as.map (p_cv ad)).toArray) hl hD hS hA1 ?_ kv kx'
    have hM := hct hm c5 H.size
    rw [hstk]
    have hgi := ((p_goodIn hm) _ List.mem_cons_self).1
    cases hhn : p_hh mj with
    | nil =>
      have hcw : p_cw mj = .code (p_y mj) (p_b mj) (p_ml mj) (p_rt mj) := by unfold p_cw; rw [hhn]
      rcases hlk2 with z | hlk3
      · exact absurd z id
      · exact vx_runS (y := p_y mj) (bytes := p_b mj) (maxL := p_ml mj) (ret := p_rt mj) (n := n) (nL := p_ml mi) ⟨hx, hb, hml, hown, hts⟩ hM
          ⟨⟨rfl, rfl, (hfr c3).1, (hfr c3).2, hpay hm, by rw [← hcw]; exact List.mem_cons_self, by rw [← hcw]; exact hts _ hgi, hts _ q1, q4, hsig, hts _ hlk3⟩, hts _ (q3 c4)⟩
          ⟨p_Pc_blind, fun U hU hW => p_pre (as := as) hVV hP hD hS hU hW⟩
          rfl (by rw [List.length_map]; exact hlen) hsz rfl (by rw [hmon, p_vcat]; omega) hd hf
    | cons z0 zs =>
      have hcw : p_cw mj = .codeWith (p_y mj) (p_b mj) (p_ml mj) (p_rt mj) (z0 :: zs) := by unfold p_cw; rw [hhn]
      have hlk3 : Cond.methodLink (p_nm (p_own mi)) idx (p_y mj) ∈ p_big := by
        rcases hlk2 with z | z
        · exact absurd z id
        · exact z
      exact vx_runSX (y := p_y mj) (bytes := p_b mj) (maxL := p_ml mj) (ret := p_rt mj) (hh := z0 :: zs) (n := n) (nL := p_ml mi) ⟨hx, hb, hml, hown, hts⟩ hM
        ⟨⟨rfl, rfl, (hfr c3).1, (hfr c3).2, hpay hm, by rw [← hcw]; exact List.mem_cons_self⟩, by rw [← hcw]; exact hts _ hgi, hts _ q1, q4, hsig, hts _ hlk3, hts _ (q3 c4)⟩
        ⟨p_Pc_blind, fun U hU hW => p_pre (as := as) hVV hP hD hS hU hW⟩
        rfl (by rw [List.length_map]; exact hlen) hsz rfl (by rw [hmon, p_vcat]; omega) hd hf
end Calls2
end
section
/-! ENDS OF METHODS, HANDLERS -/
def p_ht (E hpc pc : Nat) : List (Nat × Nat × Nat × Nat) → Bool
  | [] => false
  | z :: zs => (decide (z.2.2.1 = hpc) && decide (z.1 ≤ pc) && decide (pc < z.2.1) && decide (z.2.2.2 ≠ 0) && p_hb (.classLink RL z.2.2.2 (p_xn E))) || ((List.range 3).any (fun F => decide (F ≠ E) && p_hb (.classLink RL z.2.2.2 (p_xn F))) && decide (z.2.2.2 ≠ 0) && p_ht E hpc pc zs)
theorem p_ht_spec {E hpc pc : Nat} : ∀ (hh : List (Nat × Nat × Nat × Nat)), p_ht E hpc pc hh = true → ∃ pre z suf, hh = pre ++ z :: suf ∧ z.2.2.1 = hpc ∧ z.1 ≤ pc ∧ pc < z.2.1 ∧ z.2.2.2 ≠ 0 ∧ Cond.classLink RL z.2.2.2 (p_xn E) ∈ p_big ∧ ∀ y ∈ pre, y.2.2.2 ≠ 0 ∧ ∃ F, F < 3 ∧ F ≠ E ∧ Cond.classLink RL y.2.2.2 (p_xn F) ∈ p_big
  | [], h => by simp [p_ht] at h
  | z :: zs, h => by
    simp only [p_ht, Bool.or_eq_true, Bool.and_eq_true, decide_eq_true_eq, List.any_eq_true, List.mem_range] at h
    rcases h with ⟨⟨⟨⟨h1, h2⟩, h3⟩, h4⟩, h5⟩ | ⟨⟨⟨F, hF, h1, h2⟩, h3⟩, h4⟩
    · exact ⟨[], z, zs, rfl, h1, h2, h3, h4, p_hb_big h5, fun y hy => absurd hy List.not_mem_nil⟩
    · obtain ⟨pre, x, suf, e1, e2, e3, e4, e5, e6, e7⟩ := p_ht_spec zs h4
      refine ⟨z :: pre, x, suf, by rw [e1]; rfl, e2, e3, e4, e5, e6, fun y hy => ?_⟩
      rcases List.mem_cons.mp hy with rfl | hy
      · exact ⟨h3, F, hF, h1, p_hb_big h2⟩
      · exact e7 y hy
def p_hcode (mi hpc slot : Nat) (cst : Int32) : Bool := match p_at mi hpc with
  | some (.astore k) => decide (k = slot) && (match p_at mi (hpc + 2) with
    | some (.iconst n) => decide (Int32.ofInt n = cst) && decide (p_at mi (hpc + 3) = some .ireturn)
    | _ => false)
  | some (.astore_n k) => decide (k.val = slot) && (match p_at mi (hpc + 1) with
    | some (.iconst n) => decide (Int32.ofInt n = cst) && decide (p_at mi (hpc + 2) = some .ireturn)
    | _ => false)
  | _ => false
theorem p_k10 : p_hdT.all (fun q => decide (q.1.2.2 < 3) && decide (p_own q.1.1 = 6) && decide (p_rt q.1.1 = some .int) && decide (q.2.2.1 < p_ml q.1.1) && p_hcode q.1.1 q.2.1 q.2.2.1 q.2.2.2 && p_ht q.1.2.2 q.2.1 q.1.2.1 (p_hh q.1.1)) = true := by decide +kernel
theorem p_k11 : ∀ E, E < 3 → Cond.castable (p_xn E) (p_xn E) ∈ p_xB := by decide +kernel
theorem p_k12 : p_ms.all (fun m => decide (m ≠ p_lawI)) = true := by decide +kernel
theorem p_k13 : (List.range 101).all (fun m => decide (p_own m ≠ 4) || decide (p_hh m = [])) = true := by decide +kernel
theorem p_k14 : p_obs.length = 25 := rfl
section Ends
variable {p : Program} {l : Launch} {e : Env} {R : Room} {s : State} {m : MethodId} {args : Array Value} {below : List Frame} {meth : Method} {c : Code} {cells slots : Nat} {D : va_G} {ty : Nat → ClassId} {ad : Nat → Nat} {A : Nat → Prop} {scr : pX} {mi pc pc1 mj : Nat} {L L1 st st1 as rest : List Value} {w w1 : pW}
theorem p_XC_of {H : Heap} {locs : List Loc} {r : pR} {i : Nat} (hi : i < 3) (hr : r.1 = .inr (.inl i)) (hP : va_P D vwCl (p_ws ad ty r.2.1) H) (hS : va_S A s.heap H locs) {t : State} (hz : H.size ≤ t.heap.size) (hq : ∀ q : Nat, q < H.size → t.heap[q]? = H[q]?) : p_XC D ty ad A r (p_xn i) s t :=
  ⟨⟨i, hi, hr, rfl, hP.kept (fun k q hk => hq q.1 (hP k q hk).lt)⟩, Nat.le_trans hS.1 hz, fun q h1 h2 => by rw [hq q (Nat.lt_of_lt_of_le h1 hS.1)]; exact hS.2.1 q h1 h2⟩
theorem p_QC_of {H : Heap} {locs : List Loc} {r : pR} {v : Option Value} {a : Array Value} (hr : r.1 = .inl v) (hP : va_P D vwCl (p_ws ad ty r.2.1) H) (hS : va_S A s.heap H locs) {t : State} (ht : t.heap = H) : p_QC D ty ad A r a s (.returned (v.map (p_cv ad))) t :=
  ⟨⟨v, hr, rfl, by rw [ht]; exact hP⟩, hS.F ht⟩
set_option maxHeartbeats 4000000 in
/-- a step that ends the method -/
theorem p_fin1 (C : p_Cx l R p s m args meth c mi) (V : p_Wd D ty A s) (hmi : mi < 101) {r : pR} {o : pO} {k0 : Nat} (h : p_stp scr mi pc L st w = some (.inl (o, r.2.1, k0))) (ho : o = r.1) (hst : ∀ L, r.1 ≠ .inr (.inr L)) (hcell : cells + k0 = r.2.2) (hslot : slots + 6 * k0 = 6 * r.2.2) (hR1 : r.2.2 ≤ R.cells) (hR2 : 6 * r.2.2 ≤ R.slots) :
    p_K p l e R s m args below meth c cells slots (vx_MQ below (p_QC D ty ad A r) (p_XC D ty ad A r) args s r.2.2 (6 * r.2.2) A) D ty ad A mi pc L st w := by
  obtain ⟨hx, hb, hml, hown, hts, hlk, hrt, hRF, hRL, hst0, htab⟩ := C
  obtain ⟨hK, hA, hxx⟩ := V
  unfold p_stp at h
  cases hat : p_at mi pc with
  | none => rw [hat] at h; simp at h
  | some ins =>
    rw [hat] at h
    dsimp only at h
    have hd := p_dec hat
    intro ls H locs hl hP hD hS
    cases ins <;> first
      | (exact absurd h (show ¬ ((none : Option pS) = _) from fun z => by cases z))
      | (exfalso; revert h; simp only [p_ex, p_lI, p_lJ, p_lA, p_sI, p_sJ, p_i1, p_i2, p_i2z, p_l1, p_l2, p_l2z, p_lsh, p_gf, p_pf, p_ald, p_lald, p_bald, p_bast, p_iast, p_last, p_alen, p_swt, p_dup, p_dup2, p_pop, p_inc, p_iv, p_J, p_D]; (repeat' split) <;> simp; done)
      | (rename_i cnd off; cases cnd <;> (exfalso; revert h; simp only [p_ex, p_b2, p_b1, p_J]; (repeat' split) <;> simp; done))
      | skip
    case ireturn =>
      dsimp only [p_ex] at h
      unfold p_irt at h
      split at h
      · next v =>
        split at h
        · next hr =>
          simp only [p_D, Option.some.injEq, Sum.inl.injEq, Prod.mk.injEq] at h
          obtain ⟨rfl, rfl, rfl⟩ := h
          refine vx_ret ?_
          rw [show r.2.2 = cells by omega, show 6 * cells = slots by omega]
          exact W.iret hx hb (by rw [hrt, hr]) (fun t ht hW => p_QC_of ho.symm hP hS ht) hS.2.2 hd hlk
        · next hr =>
          split at h
          · next hv =>
            simp only [p_D, Option.some.injEq, Sum.inl.injEq, Prod.mk.injEq] at h
            obtain ⟨rfl, rfl, rfl⟩ := h
            refine vx_ret ?_
            rw [show r.2.2 = cells by omega, show 6 * cells = slots by omega]
            exact W.zret (ty := .boolean) hx hb (by rw [hrt, hr]) hv (fun t ht hW => p_QC_of ho.symm hP hS ht) hS.2.2 hd hlk
          · simp at h
        · simp at h
      · simp at h
    case lreturn =>
      dsimp only [p_ex] at h
      unfold p_lrt at h
      split at h
      · next v =>
        split at h
        · next hr =>
          simp only [p_D, Option.some.injEq, Sum.inl.injEq, Prod.mk.injEq] at h
          obtain ⟨rfl, rfl, rfl⟩ := h
          refine vx_ret ?_
          rw [show r.2.2 = cells by omega, show 6 * cells = slots by omega]
          exact W.lret hx hb (by rw [hrt, hr]) (fun t ht hW => p_QC_of ho.symm hP hS ht) hS.2.2 hd hlk
        · simp at h
      · simp at h
    case return_ =>
      dsimp only [p_ex] at h
      unfold p_vrt at h
      split at h
      · split at h
        · next hr =>
          simp only [p_D, Option.some.injEq, Sum.inl.injEq, Prod.mk.injEq] at h
          obtain ⟨rfl, rfl, rfl⟩ := h
          refine vx_ret ?_
          rw [show r.2.2 = cells by omega, show 6 * cells = slots by omega]
          exact W.vret hx hb (by rw [hrt, hr]) (fun t ht hW => p_QC_of ho.symm hP hS ht) hS.2.2 hd hlk
        · simp at h
      · simp at h
    case goto off =>
      exfalso
      dsimp only [p_ex] at h
      unfold p_gt at h
      split at h
      · split at h
        · split at h
          · simp only [p_D, Option.some.injEq, Sum.inl.injEq, Prod.mk.injEq] at h
            exact hst L (by rw [← ho, ← h.1])
          · simp at h
        · simp [p_J] at h
      · simp at h
    case new ik =>
      dsimp only [p_ex] at h
      unfold p_nw at h
      split at h
      · next is ic h3 h4 h6 h9 =>
        split at h
        · next E hE =>
          split at h
          · next hrr =>
            simp only [p_D, Option.some.injEq, Sum.inl.injEq, Prod.mk.injEq] at h
            obtain ⟨rfl, rfl, rfl⟩ := h
            have z := List.all_eq_true.mp p_k9 _ (p_lk hE)
            simp only [Bool.and_eq_true, decide_eq_true_eq] at z
            obtain ⟨⟨⟨⟨⟨⟨⟨⟨⟨z1, z2⟩, z3⟩, z4⟩, z5⟩, z6⟩, z7⟩, z8⟩, z9⟩, z10⟩ := z
            obtain ⟨⟨is1, tx⟩, hq1, hq2⟩ := List.mem_map.mp z5
            dsimp only at hq2
            subst hq2
            obtain ⟨sa, hsa⟩ := hxx.1 _ hq1
            have hnm : p_nm (p_own mi) = RX4 := by rw [z1]; rfl
            rw [hnm] at hown
            have htab0 : c.exceptionTable.toList = [] := by
              have y := List.all_eq_true.mp p_k13 mi (List.mem_range.mpr hmi)
              simp only [z1, ne_eq, not_true_eq_false, decide_false, Bool.false_or, decide_eq_true_eq] at y
              rw [htab, y]; rfl
            have hls : ls.size = c.maxLocals := by rw [hml]; exact hl.2.1
            refine vx_throwS (names := p_xs) (text := tx) (sa := sa) (A := A) (own := RX4) (cls := p_xn E) hx hb hst0 hown z9 (fun n hn => List.all_eq_true.mp z10 n hn) (hts _ (p_hb_big z3)) (hts _ (p_hb_big z4)) hsa ?_ (fun w hw => List.all_eq_true.mp z8 w hw) hxx.2.1 hxx.2.2.1 hS hls hd (p_dec h3) (p_dec h4) (p_dec h6) (p_dec h9) (by rw [htab0]; intro x hx; exact absurd hx List.not_mem_nil) (by show 2 + 3 < R.frames; omega) (by show 0 + (13 * (2 + 1) + 43) ≤ R.locals; omega) (by omega) (by omega) hlk (fun t hal hz hq => p_XC_of z2 ho.symm hP hS hz hq) hS.2.2 (by omega) (by omega)
            refine vx_hat (B := p_xB) (fun w hw => ?_) (fun w hw => ?_) (fun w hw => ?_)
            · have y := List.all_eq_true.mp z6 w hw
              exact hts _ (List.mem_filter.mpr ⟨by simpa using y, (List.mem_filter.mp hw).2⟩)
            · have y := List.all_eq_true.mp z7 w hw
              simpa using y
            · exact va_Nw.use (p_xB_on w hw) (hxx.2.2.2.1 w hw)
          · simp at h
        · simp at h
      · simp at h
set_option maxHeartbeats 4000000 in
/-- an exception that comes out of a call: it leaves, or is caught -/
theorem p_fin2 (C : p_Cx l R p s m args meth c mi) (V : p_Wd D ty A s) {r : pR} {i : Nat} (hi : i < 3) (hcell : cells = r.2.2) (hslot : slots = 6 * r.2.2)
    (hh : (∃ q, p_hd mi pc i = some q ∧ r.1 = .inl (some (.int q.2.2))) ∨ (p_hh mi = [] ∧ r.1 = .inr (.inl i))) {ls : Array Slot} {H : Heap} {locs : List Loc} {ce : Cell} {q9 : Addr} (hl : p_lh ad ls (p_ml mi) L) (hP : va_P D vwCl (p_ws ad ty r.2.1) H) (hS : va_S A s.heap H locs) (hce : H[q9]? = some ce) (hv : ce.vm = .none) (hcl : s.vm.findClass (p_xn i) = some ce.cls) :
    vx_W p l e R s m args below meth c H locs cells slots (vx_MQ below (p_QC D ty ad A r) (p_XC D ty ad A r) args s r.2.2 (6 * r.2.2) A) (F0 m pc ls (rest.map (p_cv ad))) q9 := by
  obtain ⟨hx, hb, hml, hown, hts, hlk, hrt, hRF, hRL, hst0, htab⟩ := C
  obtain ⟨hK, hA, hxx⟩ := V
  rcases hh with ⟨q, hq, hr⟩ | ⟨hh0, hr⟩
  · exact absurd (p_lk hq) List.not_mem_nil
  · refine vx_out (by rw [htab, hh0]; intro x hx9; exact absurd hx9 List.not_mem_nil) hlk hce hv hcl (fun t ht hal => ?_) hS.2.2 (by omega) (by omega)
    exact p_XC_of hi hr hP hS (by rw [ht]; exact Nat.le_refl _) (fun q _ => by rw [ht])
end Ends
end
section
/-! THE WHOLE RUN OF A METHOD -/
theorem p_flat_get (ad : Nat → Nat) : ∀ (as : List Value) (n k i : Nat) (v : Value), ((as.flatMap fun v => if v.category = 2 then [v, p_U] else [v]) ++ List.replicate n p_U)[i]? = some v → v ≠ p_U → (k + i, p_cv ad v) ∈ lv_args k (as.map (p_cv ad))
  | [], n, k, i, v, h, hu => by
    simp only [List.flatMap_nil, List.nil_append] at h
    exact absurd (List.eq_of_mem_replicate (List.mem_of_getElem? h)) hu
  | a :: as, n, k, i, v, h, hu => by
    simp only [List.map_cons, lv_args, p_cv_cat]
    by_cases hc : a.category = 2
    · simp only [List.flatMap_cons, hc, if_true, List.cons_append, List.nil_append] at h ⊢
      match i, h with
      | 0, h =>
        simp at h
        subst h
        exact List.mem_cons_self
      | 1, h =>
        simp at h
        exact absurd h.symm hu
      | i + 2, h =>
        simp only [List.getElem?_cons_succ] at h
        have z := p_flat_get ad as n (k + 2) i v h hu
        rw [show k + (i + 2) = k + 2 + i by omega]
        exact List.mem_cons_of_mem _ z
    · simp only [List.flatMap_cons, hc, if_false, List.cons_append, List.nil_append] at h ⊢
      match i, h with
      | 0, h =>
        simp at h
        subst h
        exact List.mem_cons_self
      | i + 1, h =>
        simp only [List.getElem?_cons_succ] at h
        have z := p_flat_get ad as n (k + 1) i v h hu
        rw [show k + (i + 1) = k + 1 + i by omega]
        exact List.mem_cons_of_mem _ z
theorem p_sl_len (ad : Nat → Nat) : ∀ (as : List Value), (lg_sl (as.map (p_cv ad))).length = p_cs as
  | [] => rfl
  | a :: as => by
    have ih := p_sl_len ad as
    simp only [lg_sl, List.map_cons, List.flatMap_cons, List.length_append, p_cv_cat, p_cs, List.sum_cons] at ih ⊢
    rw [ih]
    rcases lv_cat a with h | h <;> simp [h]
theorem p_ent_lh (ad : Nat → Nat) {as : List Value} {n : Nat} (h : p_cs as ≤ n) : p_lh ad ((lg_sl (as.map (p_cv ad)) ++ List.replicate (n - (lg_sl (as.map (p_cv ad))).length) Slot.unset).toArray) n (p_ent as n) := by
  have h1 := lv_entry (as.map (p_cv ad)) (n := n) (by rw [p_sl_len]; exact h)
  refine p_has_lh ?_ h1 (fun i v hv hu => ?_)
  · simp only [p_ent, List.length_take, List.length_append, List.length_replicate]
    omega
  · unfold p_ent at hv
    have hi : i < n := by
      have := (List.getElem?_eq_some_iff.mp hv).1
      rw [List.length_take] at this
      omega
    rw [List.getElem?_take_of_lt hi] at hv
    have z := p_flat_get ad as n 0 i v hv hu
    rwa [Nat.zero_add] at z
theorem p_stp_stop {scr : pX} {mi pc k : Nat} {L L1 st : List Value} {w w1 : pW} (h : p_stp scr mi pc L st w = some (.inl (.inr (.inr L1), w1, k))) : mi = p_lawI := by
  unfold p_stp at h
  cases hat : p_at mi pc with
  | none => rw [hat] at h; simp at h
  | some ins =>
    rw [hat] at h
    dsimp only at h
    cases ins <;> first
      | (exact absurd h (show ¬ ((none : Option pS) = _) from fun z => by cases z))
      | (exfalso; revert h; simp only [p_ex, p_lI, p_lJ, p_lA, p_sI, p_sJ, p_i1, p_i2, p_i2z, p_l1, p_l2, p_l2z, p_lsh, p_gf, p_pf, p_ald, p_lald, p_bald, p_bast, p_iast, p_last, p_alen, p_swt, p_dup, p_dup2, p_pop, p_inc, p_iv, p_irt, p_lrt, p_vrt, p_nw, p_J, p_D]; (repeat' split) <;> simp; done)
      | (rename_i cnd off; cases cnd <;> (exfalso; revert h; simp only [p_ex, p_b2, p_b1, p_J]; (repeat' split) <;> simp; done))
      | skip
    case goto off =>
      dsimp only [p_ex] at h
      unfold p_gt at h
      split at h
      · split at h
        · next hq => exact hq.1
        · simp [p_J] at h
      · simp at h
theorem p_run_stop : ∀ (n : Nat) {scr : pX} {mi pc : Nat} {L st : List Value} {w : pW} {r : pR}, mi ≠ p_lawI → p_run n scr mi pc L st w = some r → ∀ L1, r.1 ≠ .inr (.inr L1)
  | 0, scr, mi, pc, L, st, w, r, hm, h => by simp [p_run] at h
  | n + 1, scr, mi, pc, L, st, w, r, hm, h => by
    intro L1 hr
    simp only [p_run] at h
    split at h
    · simp at h
    · next r0 hs =>
      simp only [Option.some.injEq] at h
      subst h
      obtain ⟨o, w1, k⟩ := r0
      dsimp only at hr
      subst hr
      exact hm (p_stp_stop hs)
    · exact p_run_stop n hm h L1 hr
    · split at h
      · simp at h
      · split at h
        · next o w2 k2 hc =>
          simp only [Option.some.injEq] at h
          subst h
          exact p_run_stop n hm hc L1 hr
        · simp at h
      · split at h
        · simp only [Option.some.injEq] at h
          subst h
          simp at hr
        · split at h
          · simp only [Option.some.injEq] at h
            subst h
            simp at hr
          · simp at h
      · simp at h
def p_FR (l : Launch) (D : va_G) (ty : Nat → ClassId) (ad : Nat → Nat) (n : Nat) : Prop :=
  ∀ {p : Program} {e : Env} {R : Room} {s : State} {m : MethodId} {args : Array Value} {below : List Frame} {meth : Method} {c : Code} {cells slots : Nat} {Q : State → Prop} {A : Nat → Prop} {scr : pX} {mi pc : Nat} {L st : List Value} {w : pW} {r : pR} {CF SF : Nat},
    p_run n scr mi pc L st w = some r → p_Cx l R p s m args meth c mi → p_Wd D ty A s → p_sc scr ad A s → CF ≤ R.cells → SF ≤ R.slots → cells + r.2.2 = CF → slots + 6 * r.2.2 = SF →
    (∀ (cells slots pc : Nat) (L st : List Value) (w : pW) (k0 : Nat), p_stp scr mi pc L st w = some (.inl (r.1, r.2.1, k0)) → cells + k0 = CF → slots + 6 * k0 = SF → p_K p l e R s m args below meth c cells slots Q D ty ad A mi pc L st w) →
    (∀ (pc : Nat) (L rest : List Value) (i : Nat) (ls : Array Slot) (H1 : Heap) (locs1 : List Loc) (ce : Cell) (q : Addr), i < 3 → ((∃ q, p_hd mi pc i = some q ∧ r.1 = .inl (some (.int q.2.2))) ∨ (p_hh mi = [] ∧ r.1 = .inr (.inl i))) → p_lh ad ls (p_ml mi) L → va_P D vwCl (p_ws ad ty r.2.1) H1 → va_S A s.heap H1 locs1 → H1[q]? = some ce → ce.vm = .none → s.vm.findClass (p_xn i) = some ce.cls → vx_W p l e R s m args below meth c H1 locs1 CF SF Q (F0 m pc ls (rest.map (p_cv ad))) q) →
    p_K p l e R s m args below meth c cells slots Q D ty ad A mi pc L st w
theorem p_k15 : p_ms.all (fun m => decide (m < 101) && decide (m ≠ p_lawI)) = true := by decide +kernel
set_option maxHeartbeats 4000000 in
theorem p_ct_of {l : Launch} {D : va_G} {ty : Nat → ClassId} {ad : Nat → Nat} {n : Nat} (hfr : p_FR l D ty ad n) (hst : l.stackTraces = false) {mi : Nat} {as : List Value} {w : pW} {r : pR} (hm : mi ∈ p_ms) (hcs : p_cs as ≤ p_ml mi) (h : p_run n none mi 0 (p_ent as (p_ml mi)) [] w = some r) : p_Ct l D ty ad mi as w r := by
  intro sz
  obtain ⟨q1, q2, q3, q4, q5, q6⟩ := p_msk hm
  have hk := List.all_eq_true.mp p_k15 mi hm
  simp only [Bool.and_eq_true, decide_eq_true_eq] at hk
  have hns := p_run_stop n hk.2 h
  have main : ∀ (p : Program) (e : Env) (s : State) (m : MethodId) (args : Array Value) (below : List Frame) (meth : Method) (c : Code), p_Cx l (p_rm mi r.2.2) p s m args meth c mi → p_Pc D ty ad as w sz args s →
      W p l e (p_rm mi r.2.2) s m args below meth c s.heap [] 0 0 (vx_MQ below (p_QC D ty ad (va_A (p_ws ad ty w) sz) r) (p_XC D ty ad (va_A (p_ws ad ty w) sz) r) args s r.2.2 (6 * r.2.2) (va_A (p_ws ad ty w) sz)) (entryFrame m args (p_ml mi)) := by
    intro p e s m args below meth c C hv
    obtain ⟨rfl, hsz, hP, hK, hD0, hxx⟩ := hv
    subst hsz
    rw [lg_entry_eq]
    have hD := hD0.self (sz := s.heap.size)
    have V : p_Wd D ty (va_A (p_ws ad ty w) s.heap.size) s := ⟨hK, fun q hq => Or.inr hq, hxx⟩
    have hS : va_S (va_A (p_ws ad ty w) s.heap.size) s.heap s.heap [] := va_S.rf
    refine hfr (CF := r.2.2) (SF := 6 * r.2.2) (scr := none) h C V (fun n xs z => by cases z) (Nat.le_refl _) (Nat.le_refl _) (Nat.zero_add _) (Nat.zero_add _) ?_ ?_ _ _ _ (p_ent_lh ad hcs) hP hD hS
    · intro cells slots pc L st w2 k0 hs h1 h2
      exact p_fin1 C V hk.1 hs rfl hns h1 h2 (Nat.le_refl _) (Nat.le_refl _)
    · intro pc L rest i ls H1 locs1 ce q hi hh hl hP1 hS1 hce hv hcl
      exact p_fin2 C V hi rfl rfl hh hl hP1 hS1 hce hv hcl
  have hats : ∀ {p : Program} {e : Env} {s : State} {m : MethodId} {args : Array Value} {below : List Frame} {meth : Method} {c : Code} {s₁ : State}, BodyLoose p l (p_y mi) (headSpec (p_cw mi :: p_big) (p_rm mi r.2.2)) (p_b mi) (p_ml mi) (p_rt mi) e s m args below meth c s₁ → ∀ w ∈ p_cw mi :: p_big, w.before args s = true := fun B => atoms_spec (ws := p_cw mi :: p_big) B.pre
  cases hhn : p_hh mi with
  | nil =>
    have hcw : p_cw mi = .code (p_y mi) (p_b mi) (p_ml mi) (p_rt mi) := by unfold p_cw; rw [hhn]
    refine vx_ofW (cc := p_b mi) (maxL := p_ml mi) (ret := p_rt mi) (ws' := p_big) q5 (by rw [hcw]) ?_
    intro p e s m args below meth c s₁ B hml hex hv
    refine main p e s m args below meth c ⟨B.exec, B.bytes, hml, by rw [← q6]; exact findClass_of_methodNamed B.named, fun w hw => hats B w (List.mem_cons_of_mem _ hw), B.notSynchronized, B.returns, Nat.le_refl _, Nat.le_refl _, hst, ?_⟩ hv
    rw [hhn]
    exact List.eq_nil_iff_forall_not_mem.mpr (fun x hx => hex x hx)
  | cons z0 zs =>
    have hcw : p_cw mi = .codeWith (p_y mi) (p_b mi) (p_ml mi) (p_rt mi) (z0 :: zs) := by unfold p_cw; rw [hhn]
    refine vx_ofWH (cc := p_b mi) (maxL := p_ml mi) (ret := p_rt mi) (hh := z0 :: zs) (ws' := p_big) q5 (by rw [hcw]) ?_
    intro p e s m args below meth c s₁ B hml hv
    refine main p e s m args below meth c ⟨B.exec, B.bytes, hml, by rw [← q6]; exact findClass_of_methodNamed B.named, fun w hw => hats B w (List.mem_cons_of_mem _ hw), B.notSynchronized, B.returns, Nat.le_refl _, Nat.le_refl _, hst, ?_⟩ hv
    rw [hhn]
    exact vx_table (x := p_y mi) B (by rw [← hcw]; exact hats B _ List.mem_cons_self)
set_option maxHeartbeats 4000000 in
theorem p_fr {l : Launch} (D : va_G) (ty : Nat → ClassId) (ad : Nat → Nat) (hst : l.stackTraces = false) : ∀ n, p_FR l D ty ad n := by
  intro n
  induction n with
  | zero => intro p e R s m args below meth c cells slots Q A scr mi pc L st w r CF SF h; simp [p_run] at h
  | succ n ih =>
    intro p e R s m args below meth c cells slots Q A scr mi pc L st w r CF SF h C V X hR1 hR2 hc hs F1 F2
    simp only [p_run] at h
    split at h
    · simp at h
    · next r0 hstp =>
      simp only [Option.some.injEq] at h
      subst h
      exact F1 cells slots pc L st w r0.2.2 hstp hc hs
    · next j hstp =>
      obtain ⟨pc1, L1, st1, w1⟩ := j
      exact p_snd_jump C V X (by omega) (by omega) hstp (ih h C V X hR1 hR2 hc hs F1 F2)
    · next q hstp =>
      obtain ⟨mj, as, rest⟩ := q
      dsimp only at h
      split at h
      · simp at h
      · next v w1 k1 hcal =>
        split at h
        · next o w2 k2 hcon =>
          simp only [Option.some.injEq] at h
          subst h
          dsimp only at hc hs F1 F2
          refine p_snd_call C V hstp (r := (.inl v, w1, k1)) (fun hm hcs => p_ct_of ih hst hm hcs hcal) ⟨by dsimp only; omega, by dsimp only; omega⟩ ?_ ?_
          · intro v0 hv0
            cases hv0
            exact ih hcon C V X hR1 hR2 (by dsimp only; omega) (by dsimp only; omega) F1 F2
          · intro i hi hr
            cases hr
        · simp at h
      · next E w1 k1 hcal =>
        refine p_snd_call C V hstp (r := (.inr (.inl E), w1, k1)) (fun hm hcs => p_ct_of ih hst hm hcs hcal) ?_ ?_ ?_
        · split at h
          · simp only [Option.some.injEq] at h
            subst h
            exact ⟨by dsimp only at *; omega, by dsimp only at *; omega⟩
          · split at h
            · simp only [Option.some.injEq] at h
              subst h
              exact ⟨by dsimp only at *; omega, by dsimp only at *; omega⟩
            · simp at h
        · intro v hv
          cases hv
        · intro i hi hr ls H1 locs1 ce q hl hP1 hD1 hS1 hce hv hcl
          simp only [Sum.inr.injEq, Sum.inl.injEq] at hr
          subst hr
          split at h
          · next z hz =>
            simp only [Option.some.injEq] at h
            subst h
            dsimp only at hc hs F2 ⊢
            rw [hc, hs]
            exact F2 pc L rest _ ls H1 locs1 ce q hi (Or.inl ⟨z, hz, rfl⟩) hl hP1 hS1 hce hv hcl
          · split at h
            · next hhn =>
              simp only [Option.some.injEq] at h
              subst h
              dsimp only at hc hs F2 ⊢
              rw [hc, hs]
              exact F2 pc L rest _ ls H1 locs1 ce q hi (Or.inr ⟨hhn, rfl⟩) hl hP1 hS1 hce hv hcl
            · simp at h
      · simp at h
end
