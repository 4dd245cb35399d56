/-! THE CONSTRUCTORS (written by wip/p30/gen19/gen.py) -/
theorem lo_w0 : (Jvm.Cond.methodLink "LiftingWorkshop$Row" (3 : Nat) ({ cls := "java/lang/Object", name := "<init>", desc := "()V" } : Jvm.MethodName)) ∈ p_big := List.mem_filter.mpr ⟨p_t1 (List.mem_of_getElem? (i := 46) rfl), rfl⟩
theorem lo_w1 : (Jvm.Cond.instanceMethod ({ cls := "java/lang/Object", name := "<init>", desc := "()V" } : Jvm.MethodName)) ∈ p_big := List.mem_filter.mpr ⟨p_t1 (List.mem_of_getElem? (i := 19) rfl), rfl⟩
theorem lo_w2 : (Jvm.Cond.code ({ cls := "java/lang/Object", name := "<init>", desc := "()V" } : Jvm.MethodName) object_method_1_code (1 : Nat) (Option.none : Option Jvm.ClassFile.FieldType)) ∈ p_big := List.mem_filter.mpr ⟨p_t1 (List.mem_of_getElem? (i := 20) rfl), rfl⟩
theorem lo_w3 : (Jvm.Cond.arrayClass Jvm.ClassFile.FieldType.long) ∈ p_big := List.mem_filter.mpr ⟨p_t1 (List.mem_of_getElem? (i := 51) rfl), rfl⟩
theorem lo_w4 : (Jvm.Cond.fieldLink "LiftingWorkshop$Row" (9 : Nat) "LiftingWorkshop$Row" "cells" "[J") ∈ p_big := List.mem_filter.mpr ⟨p_t1 (List.mem_of_getElem? (i := 47) rfl), rfl⟩
theorem lo_w5 : (Jvm.Cond.code ({ cls := "LiftingWorkshop$Row", name := "<init>", desc := "()V" } : Jvm.MethodName) prog_4_method_1_code (1 : Nat) (Option.none : Option Jvm.ClassFile.FieldType)) ∈ p_big := List.mem_filter.mpr ⟨p_t1 (List.mem_of_getElem? (i := 45) rfl), rfl⟩
theorem lo_w6 : (Jvm.Cond.methodLink "LiftingWorkshop$Tree" (3 : Nat) ({ cls := "java/lang/Object", name := "<init>", desc := "()V" } : Jvm.MethodName)) ∈ p_big := List.mem_filter.mpr ⟨p_t1 (List.mem_of_getElem? (i := 26) rfl), rfl⟩
theorem lo_w7 : (Jvm.Cond.arrayClass Jvm.ClassFile.FieldType.boolean) ∈ p_big := List.mem_filter.mpr ⟨p_t1 (List.mem_of_getElem? (i := 34) rfl), rfl⟩
theorem lo_w8 : (Jvm.Cond.fieldLink "LiftingWorkshop$Tree" (9 : Nat) "LiftingWorkshop$Tree" "parents" "[Z") ∈ p_big := List.mem_filter.mpr ⟨p_t1 (List.mem_of_getElem? (i := 27) rfl), rfl⟩
theorem lo_w9 : (Jvm.Cond.fieldLink "LiftingWorkshop$Tree" (15 : Nat) "LiftingWorkshop$Tree" "width" "I") ∈ p_big := List.mem_filter.mpr ⟨p_t1 (List.mem_of_getElem? (i := 28) rfl), rfl⟩
theorem lo_w10 : (Jvm.Cond.code ({ cls := "LiftingWorkshop$Tree", name := "<init>", desc := "()V" } : Jvm.MethodName) prog_5_method_1_code (1 : Nat) (Option.none : Option Jvm.ClassFile.FieldType)) ∈ p_big := List.mem_filter.mpr ⟨p_t1 (List.mem_of_getElem? (i := 25) rfl), rfl⟩
theorem lo_w11 : (Jvm.Cond.methodLink "LiftingWorkshop$Lifting" (3 : Nat) ({ cls := "java/lang/Object", name := "<init>", desc := "()V" } : Jvm.MethodName)) ∈ p_big := List.mem_filter.mpr ⟨p_t1 (List.mem_of_getElem? (i := 40) rfl), rfl⟩
theorem lo_w12 : (Jvm.Cond.classLink "LiftingWorkshop$Lifting" (9 : Nat) "LiftingWorkshop$Row") ∈ p_big := List.mem_filter.mpr ⟨p_t1 (List.mem_of_getElem? (i := 41) rfl), rfl⟩
theorem lo_w13 : (Jvm.Cond.instantiable "LiftingWorkshop$Row" (1 : Nat)) ∈ p_big := List.mem_filter.mpr ⟨p_t1 (List.mem_of_getElem? (i := 42) rfl), rfl⟩
theorem lo_w14 : (Jvm.Cond.initialized "LiftingWorkshop$Row") ∈ p_big := List.mem_filter.mpr ⟨p_t1 (List.mem_of_getElem? (i := 4) rfl), rfl⟩
theorem lo_w15 : (Jvm.Cond.instanceMethod ({ cls := "LiftingWorkshop$Row", name := "<init>", desc := "()V" } : Jvm.MethodName)) ∈ p_big := List.mem_filter.mpr ⟨p_t1 (List.mem_of_getElem? (i := 44) rfl), rfl⟩
theorem lo_w16 : (Jvm.Cond.fieldLink "LiftingWorkshop$Lifting" (12 : Nat) "LiftingWorkshop$Lifting" "mixed" "LLiftingWorkshop$Row;") ∈ p_big := List.mem_filter.mpr ⟨p_t1 (List.mem_of_getElem? (i := 52) rfl), rfl⟩
theorem lo_w17 : (Jvm.Cond.fieldLink "LiftingWorkshop$Lifting" (18 : Nat) "LiftingWorkshop$Lifting" "wavelet" "I") ∈ p_big := List.mem_filter.mpr ⟨p_t1 (List.mem_of_getElem? (i := 53) rfl), rfl⟩
theorem lo_w18 : (Jvm.Cond.code ({ cls := "LiftingWorkshop$Lifting", name := "<init>", desc := "()V" } : Jvm.MethodName) prog_3_method_1_code (1 : Nat) (Option.none : Option Jvm.ClassFile.FieldType)) ∈ p_big := List.mem_filter.mpr ⟨p_t1 (List.mem_of_getElem? (i := 39) rfl), rfl⟩
theorem lo_w19 : (Jvm.Cond.methodLink "LiftingWorkshop$Code" (5 : Nat) ({ cls := "java/lang/Object", name := "<init>", desc := "()V" } : Jvm.MethodName)) ∈ p_big := List.mem_filter.mpr ⟨p_t1 (List.mem_of_getElem? (i := 66) rfl), rfl⟩
theorem lo_w20 : (Jvm.Cond.classLink "LiftingWorkshop$Code" (11 : Nat) "LiftingWorkshop$Row") ∈ p_big := List.mem_filter.mpr ⟨p_t1 (List.mem_of_getElem? (i := 67) rfl), rfl⟩
theorem lo_w21 : (Jvm.Cond.fieldLink "LiftingWorkshop$Code" (14 : Nat) "LiftingWorkshop$Code" "row" "LLiftingWorkshop$Row;") ∈ p_big := List.mem_filter.mpr ⟨p_t1 (List.mem_of_getElem? (i := 69) rfl), rfl⟩
theorem lo_w22 : (Jvm.Cond.fieldLink "LiftingWorkshop$Code" (18 : Nat) "LiftingWorkshop$Code" "reach" "LLiftingWorkshop$Row;") ∈ p_big := List.mem_filter.mpr ⟨p_t1 (List.mem_of_getElem? (i := 70) rfl), rfl⟩
theorem lo_w23 : (Jvm.Cond.arrayClass Jvm.ClassFile.FieldType.byte) ∈ p_big := List.mem_filter.mpr ⟨p_t1 (List.mem_of_getElem? (i := 91) rfl), rfl⟩
theorem lo_w24 : (Jvm.Cond.fieldLink "LiftingWorkshop$Code" (21 : Nat) "LiftingWorkshop$Code" "bits" "[B") ∈ p_big := List.mem_filter.mpr ⟨p_t1 (List.mem_of_getElem? (i := 71) rfl), rfl⟩
theorem lo_w25 : (Jvm.Cond.fieldLink "LiftingWorkshop$Code" (25 : Nat) "LiftingWorkshop$Code" "toldPlaces" "[B") ∈ p_big := List.mem_filter.mpr ⟨p_t1 (List.mem_of_getElem? (i := 72) rfl), rfl⟩
theorem lo_w26 : (Jvm.Cond.fieldLink "LiftingWorkshop$Code" (28 : Nat) "LiftingWorkshop$Code" "toldPlanes" "[B") ∈ p_big := List.mem_filter.mpr ⟨p_t1 (List.mem_of_getElem? (i := 73) rfl), rfl⟩
theorem lo_w27 : (Jvm.Cond.code ({ cls := "LiftingWorkshop$Code", name := "<init>", desc := "()V" } : Jvm.MethodName) prog_2_method_1_code (1 : Nat) (Option.none : Option Jvm.ClassFile.FieldType)) ∈ p_big := List.mem_filter.mpr ⟨p_t1 (List.mem_of_getElem? (i := 65) rfl), rfl⟩
theorem lo_w28 : (Jvm.Cond.methodLink "LiftingWorkshop" (1 : Nat) ({ cls := "java/lang/Object", name := "<init>", desc := "()V" } : Jvm.MethodName)) ∈ p_big := List.mem_filter.mpr ⟨p_t1 (List.mem_of_getElem? (i := 18) rfl), rfl⟩
theorem lo_w29 : (Jvm.Cond.classLink "LiftingWorkshop" (7 : Nat) "LiftingWorkshop$Tree") ∈ p_big := List.mem_filter.mpr ⟨p_t1 (List.mem_of_getElem? (i := 21) rfl), rfl⟩
theorem lo_w30 : (Jvm.Cond.instantiable "LiftingWorkshop$Tree" (2 : Nat)) ∈ p_big := List.mem_filter.mpr ⟨p_t1 (List.mem_of_getElem? (i := 22) rfl), rfl⟩
theorem lo_w31 : (Jvm.Cond.initialized "LiftingWorkshop$Tree") ∈ p_big := List.mem_filter.mpr ⟨p_t1 (List.mem_of_getElem? (i := 2) rfl), rfl⟩
theorem lo_w32 : (Jvm.Cond.instanceMethod ({ cls := "LiftingWorkshop$Tree", name := "<init>", desc := "()V" } : Jvm.MethodName)) ∈ p_big := List.mem_filter.mpr ⟨p_t1 (List.mem_of_getElem? (i := 24) rfl), rfl⟩
theorem lo_w33 : (Jvm.Cond.fieldLink "LiftingWorkshop" (10 : Nat) "LiftingWorkshop" "tree" "LLiftingWorkshop$Tree;") ∈ p_big := List.mem_filter.mpr ⟨p_t1 (List.mem_of_getElem? (i := 92) rfl), rfl⟩
theorem lo_w34 : (Jvm.Cond.classLink "LiftingWorkshop" (16 : Nat) "LiftingWorkshop$Lifting") ∈ p_big := List.mem_filter.mpr ⟨p_t1 (List.mem_of_getElem? (i := 35) rfl), rfl⟩
theorem lo_w35 : (Jvm.Cond.instantiable "LiftingWorkshop$Lifting" (2 : Nat)) ∈ p_big := List.mem_filter.mpr ⟨p_t1 (List.mem_of_getElem? (i := 36) rfl), rfl⟩
theorem lo_w36 : (Jvm.Cond.initialized "LiftingWorkshop$Lifting") ∈ p_big := List.mem_filter.mpr ⟨p_t1 (List.mem_of_getElem? (i := 3) rfl), rfl⟩
theorem lo_w37 : (Jvm.Cond.instanceMethod ({ cls := "LiftingWorkshop$Lifting", name := "<init>", desc := "()V" } : Jvm.MethodName)) ∈ p_big := List.mem_filter.mpr ⟨p_t1 (List.mem_of_getElem? (i := 38) rfl), rfl⟩
theorem lo_w38 : (Jvm.Cond.fieldLink "LiftingWorkshop" (19 : Nat) "LiftingWorkshop" "lifting" "LLiftingWorkshop$Lifting;") ∈ p_big := List.mem_filter.mpr ⟨p_t1 (List.mem_of_getElem? (i := 93) rfl), rfl⟩
theorem lo_w39 : (Jvm.Cond.classLink "LiftingWorkshop" (23 : Nat) "LiftingWorkshop$Row") ∈ p_big := List.mem_filter.mpr ⟨p_t1 (List.mem_of_getElem? (i := 59) rfl), rfl⟩
theorem lo_w40 : (Jvm.Cond.fieldLink "LiftingWorkshop" (26 : Nat) "LiftingWorkshop" "numbers" "LLiftingWorkshop$Row;") ∈ p_big := List.mem_filter.mpr ⟨p_t1 (List.mem_of_getElem? (i := 94) rfl), rfl⟩
theorem lo_w41 : (Jvm.Cond.classLink "LiftingWorkshop" (30 : Nat) "LiftingWorkshop$Code") ∈ p_big := List.mem_filter.mpr ⟨p_t1 (List.mem_of_getElem? (i := 61) rfl), rfl⟩
theorem lo_w42 : (Jvm.Cond.instantiable "LiftingWorkshop$Code" (8 : Nat)) ∈ p_big := List.mem_filter.mpr ⟨p_t1 (List.mem_of_getElem? (i := 62) rfl), rfl⟩
theorem lo_w43 : (Jvm.Cond.initialized "LiftingWorkshop$Code") ∈ p_big := List.mem_filter.mpr ⟨p_t1 (List.mem_of_getElem? (i := 5) rfl), rfl⟩
theorem lo_w44 : (Jvm.Cond.instanceMethod ({ cls := "LiftingWorkshop$Code", name := "<init>", desc := "()V" } : Jvm.MethodName)) ∈ p_big := List.mem_filter.mpr ⟨p_t1 (List.mem_of_getElem? (i := 64) rfl), rfl⟩
theorem lo_w45 : (Jvm.Cond.fieldLink "LiftingWorkshop" (33 : Nat) "LiftingWorkshop" "code" "LLiftingWorkshop$Code;") ∈ p_big := List.mem_filter.mpr ⟨p_t1 (List.mem_of_getElem? (i := 95) rfl), rfl⟩
theorem lo_w46 : (Jvm.Cond.fieldLink "LiftingWorkshop" (37 : Nat) "LiftingWorkshop" "samples" "LLiftingWorkshop$Row;") ∈ p_big := List.mem_filter.mpr ⟨p_t1 (List.mem_of_getElem? (i := 96) rfl), rfl⟩
theorem lo_w47 : (Jvm.Cond.fieldLink "LiftingWorkshop" (40 : Nat) "LiftingWorkshop" "told" "LLiftingWorkshop$Row;") ∈ p_big := List.mem_filter.mpr ⟨p_t1 (List.mem_of_getElem? (i := 97) rfl), rfl⟩
theorem lo_w48 : (Jvm.Cond.fieldLink "LiftingWorkshop" (43 : Nat) "LiftingWorkshop" "brought" "LLiftingWorkshop$Row;") ∈ p_big := List.mem_filter.mpr ⟨p_t1 (List.mem_of_getElem? (i := 98) rfl), rfl⟩
theorem lo_w49 : (Jvm.Cond.arrayClass Jvm.ClassFile.FieldType.int) ∈ p_big := List.mem_filter.mpr ⟨p_t1 (List.mem_of_getElem? (i := 117) rfl), rfl⟩
theorem lo_w50 : (Jvm.Cond.fieldLink "LiftingWorkshop" (46 : Nat) "LiftingWorkshop" "costAsLeaf" "[I") ∈ p_big := List.mem_filter.mpr ⟨p_t1 (List.mem_of_getElem? (i := 99) rfl), rfl⟩
theorem lo_w51 : (Jvm.Cond.code ({ cls := "LiftingWorkshop", name := "<init>", desc := "()V" } : Jvm.MethodName) prog_1_method_1_code (1 : Nat) (Option.none : Option Jvm.ClassFile.FieldType)) ∈ p_big := List.mem_filter.mpr ⟨p_t1 (List.mem_of_getElem? (i := 17) rfl), rfl⟩
def lo_nst : List Cond := [(Jvm.Cond.methodLinkNest "LiftingWorkshop$Lifting" (11 : Nat) ({ cls := "LiftingWorkshop$Row", name := "<init>", desc := "()V" } : Jvm.MethodName) "LiftingWorkshop"), (Jvm.Cond.methodLinkNest "LiftingWorkshop$Code" (13 : Nat) ({ cls := "LiftingWorkshop$Row", name := "<init>", desc := "()V" } : Jvm.MethodName) "LiftingWorkshop"), (Jvm.Cond.methodLinkNest "LiftingWorkshop" (9 : Nat) ({ cls := "LiftingWorkshop$Tree", name := "<init>", desc := "()V" } : Jvm.MethodName) "LiftingWorkshop"), (Jvm.Cond.methodLinkNest "LiftingWorkshop" (18 : Nat) ({ cls := "LiftingWorkshop$Lifting", name := "<init>", desc := "()V" } : Jvm.MethodName) "LiftingWorkshop"), (Jvm.Cond.methodLinkNest "LiftingWorkshop" (25 : Nat) ({ cls := "LiftingWorkshop$Row", name := "<init>", desc := "()V" } : Jvm.MethodName) "LiftingWorkshop"), (Jvm.Cond.methodLinkNest "LiftingWorkshop" (32 : Nat) ({ cls := "LiftingWorkshop$Code", name := "<init>", desc := "()V" } : Jvm.MethodName) "LiftingWorkshop")]
def lo_N (U : State) : Prop := ∀ w ∈ lo_nst, va_Nw w U
theorem lo_N_0 {U : State} (h : lo_N U) : va_Nw (Jvm.Cond.methodLinkNest "LiftingWorkshop$Lifting" (11 : Nat) ({ cls := "LiftingWorkshop$Row", name := "<init>", desc := "()V" } : Jvm.MethodName) "LiftingWorkshop") U := h _ (List.mem_of_getElem? (i := 0) rfl)
theorem lo_N_1 {U : State} (h : lo_N U) : va_Nw (Jvm.Cond.methodLinkNest "LiftingWorkshop$Code" (13 : Nat) ({ cls := "LiftingWorkshop$Row", name := "<init>", desc := "()V" } : Jvm.MethodName) "LiftingWorkshop") U := h _ (List.mem_of_getElem? (i := 1) rfl)
theorem lo_N_2 {U : State} (h : lo_N U) : va_Nw (Jvm.Cond.methodLinkNest "LiftingWorkshop" (9 : Nat) ({ cls := "LiftingWorkshop$Tree", name := "<init>", desc := "()V" } : Jvm.MethodName) "LiftingWorkshop") U := h _ (List.mem_of_getElem? (i := 2) rfl)
theorem lo_N_3 {U : State} (h : lo_N U) : va_Nw (Jvm.Cond.methodLinkNest "LiftingWorkshop" (18 : Nat) ({ cls := "LiftingWorkshop$Lifting", name := "<init>", desc := "()V" } : Jvm.MethodName) "LiftingWorkshop") U := h _ (List.mem_of_getElem? (i := 3) rfl)
theorem lo_N_4 {U : State} (h : lo_N U) : va_Nw (Jvm.Cond.methodLinkNest "LiftingWorkshop" (25 : Nat) ({ cls := "LiftingWorkshop$Row", name := "<init>", desc := "()V" } : Jvm.MethodName) "LiftingWorkshop") U := h _ (List.mem_of_getElem? (i := 4) rfl)
theorem lo_N_5 {U : State} (h : lo_N U) : va_Nw (Jvm.Cond.methodLinkNest "LiftingWorkshop" (32 : Nat) ({ cls := "LiftingWorkshop$Code", name := "<init>", desc := "()V" } : Jvm.MethodName) "LiftingWorkshop") U := h _ (List.mem_of_getElem? (i := 5) rfl)
theorem lo_d2_0 : decode cX2_init 0 = .ok (.aload_n 0, 1) := p_d23 (0, .aload_n 0) (List.mem_of_getElem? (i := 0) rfl)
theorem lo_d2_1 : decode cX2_init 1 = .ok (.invokespecial 3, 3) := p_d23 (1, .invokespecial 3) (List.mem_of_getElem? (i := 1) rfl)
theorem lo_d2_4 : decode cX2_init 4 = .ok (.aload_n 0, 1) := p_d23 (4, .aload_n 0) (List.mem_of_getElem? (i := 2) rfl)
theorem lo_d2_5 : decode cX2_init 5 = .ok (.bipush 32, 2) := p_d23 (5, .bipush 32) (List.mem_of_getElem? (i := 3) rfl)
theorem lo_d2_7 : decode cX2_init 7 = .ok (.newarray .long, 2) := p_d23 (7, .newarray .long) (List.mem_of_getElem? (i := 4) rfl)
theorem lo_d2_9 : decode cX2_init 9 = .ok (.putfield 9, 3) := p_d23 (9, .putfield 9) (List.mem_of_getElem? (i := 5) rfl)
theorem lo_d2_12 : decode cX2_init 12 = .ok (.return_, 1) := p_d23 (12, .return_) (List.mem_of_getElem? (i := 6) rfl)
theorem lo_d3_0 : decode cX3_init 0 = .ok (.aload_n 0, 1) := p_d29 (0, .aload_n 0) (List.mem_of_getElem? (i := 0) rfl)
theorem lo_d3_1 : decode cX3_init 1 = .ok (.invokespecial 3, 3) := p_d29 (1, .invokespecial 3) (List.mem_of_getElem? (i := 1) rfl)
theorem lo_d3_4 : decode cX3_init 4 = .ok (.aload_n 0, 1) := p_d29 (4, .aload_n 0) (List.mem_of_getElem? (i := 2) rfl)
theorem lo_d3_5 : decode cX3_init 5 = .ok (.bipush 8, 2) := p_d29 (5, .bipush 8) (List.mem_of_getElem? (i := 3) rfl)
theorem lo_d3_7 : decode cX3_init 7 = .ok (.newarray .boolean, 2) := p_d29 (7, .newarray .boolean) (List.mem_of_getElem? (i := 4) rfl)
theorem lo_d3_9 : decode cX3_init 9 = .ok (.putfield 9, 3) := p_d29 (9, .putfield 9) (List.mem_of_getElem? (i := 5) rfl)
theorem lo_d3_12 : decode cX3_init 12 = .ok (.aload_n 0, 1) := p_d29 (12, .aload_n 0) (List.mem_of_getElem? (i := 6) rfl)
theorem lo_d3_13 : decode cX3_init 13 = .ok (.bipush 8, 2) := p_d29 (13, .bipush 8) (List.mem_of_getElem? (i := 7) rfl)
theorem lo_d3_15 : decode cX3_init 15 = .ok (.putfield 15, 3) := p_d29 (15, .putfield 15) (List.mem_of_getElem? (i := 8) rfl)
theorem lo_d3_18 : decode cX3_init 18 = .ok (.return_, 1) := p_d29 (18, .return_) (List.mem_of_getElem? (i := 9) rfl)
theorem lo_d1_0 : decode cX1_init 0 = .ok (.aload_n 0, 1) := p_d14 (0, .aload_n 0) (List.mem_of_getElem? (i := 0) rfl)
theorem lo_d1_1 : decode cX1_init 1 = .ok (.invokespecial 3, 3) := p_d14 (1, .invokespecial 3) (List.mem_of_getElem? (i := 1) rfl)
theorem lo_d1_4 : decode cX1_init 4 = .ok (.aload_n 0, 1) := p_d14 (4, .aload_n 0) (List.mem_of_getElem? (i := 2) rfl)
theorem lo_d1_5 : decode cX1_init 5 = .ok (.new 9, 3) := p_d14 (5, .new 9) (List.mem_of_getElem? (i := 3) rfl)
theorem lo_d1_8 : decode cX1_init 8 = .ok (.dup, 1) := p_d14 (8, .dup) (List.mem_of_getElem? (i := 4) rfl)
theorem lo_d1_9 : decode cX1_init 9 = .ok (.invokespecial 11, 3) := p_d14 (9, .invokespecial 11) (List.mem_of_getElem? (i := 5) rfl)
theorem lo_d1_12 : decode cX1_init 12 = .ok (.putfield 12, 3) := p_d14 (12, .putfield 12) (List.mem_of_getElem? (i := 6) rfl)
theorem lo_d1_15 : decode cX1_init 15 = .ok (.aload_n 0, 1) := p_d14 (15, .aload_n 0) (List.mem_of_getElem? (i := 7) rfl)
theorem lo_d1_16 : decode cX1_init 16 = .ok (.iconst 0, 1) := p_d14 (16, .iconst 0) (List.mem_of_getElem? (i := 8) rfl)
theorem lo_d1_17 : decode cX1_init 17 = .ok (.putfield 18, 3) := p_d14 (17, .putfield 18) (List.mem_of_getElem? (i := 9) rfl)
theorem lo_d1_20 : decode cX1_init 20 = .ok (.return_, 1) := p_d14 (20, .return_) (List.mem_of_getElem? (i := 10) rfl)
theorem lo_d0_0 : decode cX0_init 0 = .ok (.aload_n 0, 1) := p_d0 (0, .aload_n 0) (List.mem_of_getElem? (i := 0) rfl)
theorem lo_d0_1 : decode cX0_init 1 = .ok (.invokespecial 5, 3) := p_d0 (1, .invokespecial 5) (List.mem_of_getElem? (i := 1) rfl)
theorem lo_d0_4 : decode cX0_init 4 = .ok (.aload_n 0, 1) := p_d0 (4, .aload_n 0) (List.mem_of_getElem? (i := 2) rfl)
theorem lo_d0_5 : decode cX0_init 5 = .ok (.new 11, 3) := p_d0 (5, .new 11) (List.mem_of_getElem? (i := 3) rfl)
theorem lo_d0_8 : decode cX0_init 8 = .ok (.dup, 1) := p_d0 (8, .dup) (List.mem_of_getElem? (i := 4) rfl)
theorem lo_d0_9 : decode cX0_init 9 = .ok (.invokespecial 13, 3) := p_d0 (9, .invokespecial 13) (List.mem_of_getElem? (i := 5) rfl)
theorem lo_d0_12 : decode cX0_init 12 = .ok (.putfield 14, 3) := p_d0 (12, .putfield 14) (List.mem_of_getElem? (i := 6) rfl)
theorem lo_d0_15 : decode cX0_init 15 = .ok (.aload_n 0, 1) := p_d0 (15, .aload_n 0) (List.mem_of_getElem? (i := 7) rfl)
theorem lo_d0_16 : decode cX0_init 16 = .ok (.new 11, 3) := p_d0 (16, .new 11) (List.mem_of_getElem? (i := 8) rfl)
theorem lo_d0_19 : decode cX0_init 19 = .ok (.dup, 1) := p_d0 (19, .dup) (List.mem_of_getElem? (i := 9) rfl)
theorem lo_d0_20 : decode cX0_init 20 = .ok (.invokespecial 13, 3) := p_d0 (20, .invokespecial 13) (List.mem_of_getElem? (i := 10) rfl)
theorem lo_d0_23 : decode cX0_init 23 = .ok (.putfield 18, 3) := p_d0 (23, .putfield 18) (List.mem_of_getElem? (i := 11) rfl)
theorem lo_d0_26 : decode cX0_init 26 = .ok (.aload_n 0, 1) := p_d0 (26, .aload_n 0) (List.mem_of_getElem? (i := 12) rfl)
theorem lo_d0_27 : decode cX0_init 27 = .ok (.sipush 4038, 3) := p_d0 (27, .sipush 4038) (List.mem_of_getElem? (i := 13) rfl)
theorem lo_d0_30 : decode cX0_init 30 = .ok (.newarray .byte, 2) := p_d0 (30, .newarray .byte) (List.mem_of_getElem? (i := 14) rfl)
theorem lo_d0_32 : decode cX0_init 32 = .ok (.putfield 21, 3) := p_d0 (32, .putfield 21) (List.mem_of_getElem? (i := 15) rfl)
theorem lo_d0_35 : decode cX0_init 35 = .ok (.aload_n 0, 1) := p_d0 (35, .aload_n 0) (List.mem_of_getElem? (i := 16) rfl)
theorem lo_d0_36 : decode cX0_init 36 = .ok (.sipush 4038, 3) := p_d0 (36, .sipush 4038) (List.mem_of_getElem? (i := 17) rfl)
theorem lo_d0_39 : decode cX0_init 39 = .ok (.newarray .byte, 2) := p_d0 (39, .newarray .byte) (List.mem_of_getElem? (i := 18) rfl)
theorem lo_d0_41 : decode cX0_init 41 = .ok (.putfield 25, 3) := p_d0 (41, .putfield 25) (List.mem_of_getElem? (i := 19) rfl)
theorem lo_d0_44 : decode cX0_init 44 = .ok (.aload_n 0, 1) := p_d0 (44, .aload_n 0) (List.mem_of_getElem? (i := 20) rfl)
theorem lo_d0_45 : decode cX0_init 45 = .ok (.sipush 4038, 3) := p_d0 (45, .sipush 4038) (List.mem_of_getElem? (i := 21) rfl)
theorem lo_d0_48 : decode cX0_init 48 = .ok (.newarray .byte, 2) := p_d0 (48, .newarray .byte) (List.mem_of_getElem? (i := 22) rfl)
theorem lo_d0_50 : decode cX0_init 50 = .ok (.putfield 28, 3) := p_d0 (50, .putfield 28) (List.mem_of_getElem? (i := 23) rfl)
theorem lo_d0_53 : decode cX0_init 53 = .ok (.return_, 1) := p_d0 (53, .return_) (List.mem_of_getElem? (i := 24) rfl)
theorem lo_d4_0 : decode cX4_init 0 = .ok (.aload_n 0, 1) := p_d43 (0, .aload_n 0) (List.mem_of_getElem? (i := 0) rfl)
theorem lo_d4_1 : decode cX4_init 1 = .ok (.invokespecial 1, 3) := p_d43 (1, .invokespecial 1) (List.mem_of_getElem? (i := 1) rfl)
theorem lo_d4_4 : decode cX4_init 4 = .ok (.aload_n 0, 1) := p_d43 (4, .aload_n 0) (List.mem_of_getElem? (i := 2) rfl)
theorem lo_d4_5 : decode cX4_init 5 = .ok (.new 7, 3) := p_d43 (5, .new 7) (List.mem_of_getElem? (i := 3) rfl)
theorem lo_d4_8 : decode cX4_init 8 = .ok (.dup, 1) := p_d43 (8, .dup) (List.mem_of_getElem? (i := 4) rfl)
theorem lo_d4_9 : decode cX4_init 9 = .ok (.invokespecial 9, 3) := p_d43 (9, .invokespecial 9) (List.mem_of_getElem? (i := 5) rfl)
theorem lo_d4_12 : decode cX4_init 12 = .ok (.putfield 10, 3) := p_d43 (12, .putfield 10) (List.mem_of_getElem? (i := 6) rfl)
theorem lo_d4_15 : decode cX4_init 15 = .ok (.aload_n 0, 1) := p_d43 (15, .aload_n 0) (List.mem_of_getElem? (i := 7) rfl)
theorem lo_d4_16 : decode cX4_init 16 = .ok (.new 16, 3) := p_d43 (16, .new 16) (List.mem_of_getElem? (i := 8) rfl)
theorem lo_d4_19 : decode cX4_init 19 = .ok (.dup, 1) := p_d43 (19, .dup) (List.mem_of_getElem? (i := 9) rfl)
theorem lo_d4_20 : decode cX4_init 20 = .ok (.invokespecial 18, 3) := p_d43 (20, .invokespecial 18) (List.mem_of_getElem? (i := 10) rfl)
theorem lo_d4_23 : decode cX4_init 23 = .ok (.putfield 19, 3) := p_d43 (23, .putfield 19) (List.mem_of_getElem? (i := 11) rfl)
theorem lo_d4_26 : decode cX4_init 26 = .ok (.aload_n 0, 1) := p_d43 (26, .aload_n 0) (List.mem_of_getElem? (i := 12) rfl)
theorem lo_d4_27 : decode cX4_init 27 = .ok (.new 23, 3) := p_d43 (27, .new 23) (List.mem_of_getElem? (i := 13) rfl)
theorem lo_d4_30 : decode cX4_init 30 = .ok (.dup, 1) := p_d43 (30, .dup) (List.mem_of_getElem? (i := 14) rfl)
theorem lo_d4_31 : decode cX4_init 31 = .ok (.invokespecial 25, 3) := p_d43 (31, .invokespecial 25) (List.mem_of_getElem? (i := 15) rfl)
theorem lo_d4_34 : decode cX4_init 34 = .ok (.putfield 26, 3) := p_d43 (34, .putfield 26) (List.mem_of_getElem? (i := 16) rfl)
theorem lo_d4_37 : decode cX4_init 37 = .ok (.aload_n 0, 1) := p_d43 (37, .aload_n 0) (List.mem_of_getElem? (i := 17) rfl)
theorem lo_d4_38 : decode cX4_init 38 = .ok (.new 30, 3) := p_d43 (38, .new 30) (List.mem_of_getElem? (i := 18) rfl)
theorem lo_d4_41 : decode cX4_init 41 = .ok (.dup, 1) := p_d43 (41, .dup) (List.mem_of_getElem? (i := 19) rfl)
theorem lo_d4_42 : decode cX4_init 42 = .ok (.invokespecial 32, 3) := p_d43 (42, .invokespecial 32) (List.mem_of_getElem? (i := 20) rfl)
theorem lo_d4_45 : decode cX4_init 45 = .ok (.putfield 33, 3) := p_d43 (45, .putfield 33) (List.mem_of_getElem? (i := 21) rfl)
theorem lo_d4_48 : decode cX4_init 48 = .ok (.aload_n 0, 1) := p_d43 (48, .aload_n 0) (List.mem_of_getElem? (i := 22) rfl)
theorem lo_d4_49 : decode cX4_init 49 = .ok (.new 23, 3) := p_d43 (49, .new 23) (List.mem_of_getElem? (i := 23) rfl)
theorem lo_d4_52 : decode cX4_init 52 = .ok (.dup, 1) := p_d43 (52, .dup) (List.mem_of_getElem? (i := 24) rfl)
theorem lo_d4_53 : decode cX4_init 53 = .ok (.invokespecial 25, 3) := p_d43 (53, .invokespecial 25) (List.mem_of_getElem? (i := 25) rfl)
theorem lo_d4_56 : decode cX4_init 56 = .ok (.putfield 37, 3) := p_d43 (56, .putfield 37) (List.mem_of_getElem? (i := 26) rfl)
theorem lo_d4_59 : decode cX4_init 59 = .ok (.aload_n 0, 1) := p_d43 (59, .aload_n 0) (List.mem_of_getElem? (i := 27) rfl)
theorem lo_d4_60 : decode cX4_init 60 = .ok (.new 23, 3) := p_d43 (60, .new 23) (List.mem_of_getElem? (i := 28) rfl)
theorem lo_d4_63 : decode cX4_init 63 = .ok (.dup, 1) := p_d43 (63, .dup) (List.mem_of_getElem? (i := 29) rfl)
theorem lo_d4_64 : decode cX4_init 64 = .ok (.invokespecial 25, 3) := p_d43 (64, .invokespecial 25) (List.mem_of_getElem? (i := 30) rfl)
theorem lo_d4_67 : decode cX4_init 67 = .ok (.putfield 40, 3) := p_d43 (67, .putfield 40) (List.mem_of_getElem? (i := 31) rfl)
theorem lo_d4_70 : decode cX4_init 70 = .ok (.aload_n 0, 1) := p_d43 (70, .aload_n 0) (List.mem_of_getElem? (i := 32) rfl)
theorem lo_d4_71 : decode cX4_init 71 = .ok (.new 23, 3) := p_d43 (71, .new 23) (List.mem_of_getElem? (i := 33) rfl)
theorem lo_d4_74 : decode cX4_init 74 = .ok (.dup, 1) := p_d43 (74, .dup) (List.mem_of_getElem? (i := 34) rfl)
theorem lo_d4_75 : decode cX4_init 75 = .ok (.invokespecial 25, 3) := p_d43 (75, .invokespecial 25) (List.mem_of_getElem? (i := 35) rfl)
theorem lo_d4_78 : decode cX4_init 78 = .ok (.putfield 43, 3) := p_d43 (78, .putfield 43) (List.mem_of_getElem? (i := 36) rfl)
theorem lo_d4_81 : decode cX4_init 81 = .ok (.aload_n 0, 1) := p_d43 (81, .aload_n 0) (List.mem_of_getElem? (i := 37) rfl)
theorem lo_d4_82 : decode cX4_init 82 = .ok (.bipush 8, 2) := p_d43 (82, .bipush 8) (List.mem_of_getElem? (i := 38) rfl)
theorem lo_d4_84 : decode cX4_init 84 = .ok (.newarray .int, 2) := p_d43 (84, .newarray .int) (List.mem_of_getElem? (i := 39) rfl)
theorem lo_d4_86 : decode cX4_init 86 = .ok (.putfield 46, 3) := p_d43 (86, .putfield 46) (List.mem_of_getElem? (i := 40) rfl)
theorem lo_d4_89 : decode cX4_init 89 = .ok (.return_, 1) := p_d43 (89, .return_) (List.mem_of_getElem? (i := 41) rfl)
theorem lo_nst_k : ∀ w ∈ lo_nst, ∃ a i x h, w = Cond.methodLinkNest a i x h := by
  intro w hw
  simp only [lo_nst, List.mem_cons, List.not_mem_nil, or_false] at hw
  rcases hw with rfl | rfl | rfl | rfl | rfl | rfl <;> exact ⟨_, _, _, _, rfl⟩
theorem lo_N_warm {s U : State} (hW : s.WarmedH U.vm) (h : lo_N s) : lo_N U := by
  intro w hw
  obtain ⟨a, i, x, y, rfl⟩ := lo_nst_k w hw
  exact va_Nw.warmM hW (h _ hw)
theorem lo_N_same {u U : State} (hv : u.vm = U.vm) (h : lo_N u) : lo_N U := by
  intro w hw
  have g := h w hw
  obtain ⟨a, i, x, y, rfl⟩ := lo_nst_k w hw
  exact va_Nw.same rfl hv g
theorem lo_blind {D : va_G} {ty : Nat → ClassId} {h0 sz : Nat} {ws : va_W} : FrameBlind (va_Pc [.ref h0] (fun U => U.heap.size = sz ∧ va_P D vwCl ws U.heap ∧ va_K D vwCl (p_tys ty) U ∧ va_D (fun _ => True) ws ∧ lo_N U)) := by
  intro a U g mk q
  obtain ⟨q0, q1, qP, qK, qD, qN⟩ := q
  exact ⟨q0, q1, qP, va_K.moved (u := U) (U := U.calling g mk a) (Vm.Alike.refl U.vm) qK, qD, lo_N_same (u := U) (U := U.calling g mk a) rfl qN⟩
section Na
variable {p : Program} {l : Launch} {e : Env} {R : Room} {s : State} {m : MethodId} {args : Array Value} {below : List Frame} {meth : Method} {c : Code} {locs : List Loc} {cells slots pc : Nat} {Q : State → Prop} {cc : ByteArray} {D : va_G} {A : Nat → Prop} {ws : va_W} {H0 H : Heap} {rest : List Value} {ls : Array Slot} {ty : Nat → ClassId}
/-- a new array, its class by its type's own number -/
theorem lo_newa {t : Nat} {atype : ArrayType} {fty : FieldType} (hexec : p.tables.exec = Jvm.exec) (hb : c.code = cc) (harr : (Cond.arrayClass (newarray.typeOf atype)).before args s = true) (hty : newarray.typeOf atype = fty) (ht : t < 4) (htt : (p_tys ty)[t]? = some (ty t, fty)) (hK : va_K D vwCl (p_tys ty) s) (hP : va_P D vwCl ws H) (hD : va_D A ws) (hS : va_S A H0 H locs) (hA : ∀ q, H0.size ≤ q → A q)
    {n : Int32} {N' : Nat} {a0 : vp_A} (ha : ∀ cA : ClassId, vp_cell cA a0 = arrV cA N' (fun _ => defaultValue fty)) (hn : ¬ n < 0) (hN : n.toNatClampNeg = N') (hbytes : N' * componentBytes fty ≤ 536870912) (hcells : cells + 1 ≤ R.cells) (hslots : slots + N' ≤ R.slots) (hdg : decode cc pc = .ok (.newarray atype, 2))
    (kk : ∀ (q : Nat) (H1 : Heap), va_P D vwCl (ws ++ [(q, .inl (ty t, a0))]) H1 → va_D A (ws ++ [(q, .inl (ty t, a0))]) → va_S A H0 H1 locs → W p l e R s m args below meth c H1 locs (cells + 1) (slots + N') Q (F0 m (pc + 2) ls (.ref q :: rest))) : W p l e R s m args below meth c H locs cells slots Q (F0 m pc ls (.int n :: rest)) := by
  refine va_newa hexec hb harr hty hK hP hD hS hA ha hn hN hbytes hcells hslots hdg fun q cA H1 hK1 hP1 hD1 hS1 => ?_
  have e : cA = ty t := by
    have h1 := (hK1.2 4 (cA, fty) rfl).2
    have h2 := (hK.2 t _ htt).2
    subst hty
    cases atype <;> exact Option.some.inj (h1.symm.trans h2)
  subst e
  exact kk q H1 hP1 hD1 hS1
end Na
