/-! WHAT THE TABLES SAY, beside the tables of the pure interpreter; written by wip/whole/gen/facts.py -/
def p_TT (c : Nat) : u_T := match c with
  | 0 => TX0
  | 1 => TX1
  | 2 => TX2
  | 3 => TX3
  | 4 => TX4
  | _ => TX5
def p_NN (c : Nat) : Nat := match c with
  | 0 => 8
  | 1 => 2
  | 2 => 1
  | 3 => 2
  | 4 => 8
  | _ => 0
def p_hb (w : Cond) : Bool := decide (w ∈ lw_tbl) && goodWord w
def p_big : List Cond := lw_tbl.filter goodWord
theorem p_hb_big {w : Cond} (h : p_hb w = true) : w ∈ p_big := by
  simp only [p_hb, Bool.and_eq_true, decide_eq_true_eq] at h
  exact List.mem_filter.mpr h
theorem p_lk {α β : Type} [BEq α] [LawfulBEq α] {a : α} {b : β} : ∀ {l : List (α × β)}, l.lookup a = some b → (a, b) ∈ l
  | [], h => by simp at h
  | (x, y) :: l, h => by
    rw [List.lookup_cons] at h
    split at h
    · next e => cases h; rw [eq_of_beq e]; exact List.mem_cons_self
    · exact List.mem_cons_of_mem _ (p_lk h)
/-- the word of a method's code -/
def p_cw (mi : Nat) : Cond := match p_hh mi with
  | [] => .code (p_y mi) (p_b mi) (p_ml mi) (p_rt mi)
  | h => .codeWith (p_y mi) (p_b mi) (p_ml mi) (p_rt mi) h
def p_ms : List Nat := [15, 16, 17, 18, 19, 20, 21, 22, 24, 25, 26, 27, 28, 30, 31, 32, 33, 34, 35, 36, 37, 38, 39, 40, 41, 42, 44, 45, 46, 47, 48, 49, 50, 51, 52, 53, 54, 55, 56, 57, 58, 60, 71, 72, 73, 75, 76, 80, 81, 82, 83, 84, 85, 86, 87, 94, 95, 96, 97, 98, 99]
theorem p_t1 {w : Cond} (h : w ∈ tables_1_1) : w ∈ lw_tbl := List.mem_append_right _ (List.mem_append_left _ h)
theorem p_t2 {w : Cond} (h : w ∈ tables_1_2) : w ∈ lw_tbl := List.mem_append_right _ (List.mem_append_right _ (List.mem_append_left _ h))
theorem p_t3 {w : Cond} (h : w ∈ tables_1_3) : w ∈ lw_tbl := List.mem_append_right _ (List.mem_append_right _ (List.mem_append_right _ (h)))
theorem p_cw15 : p_cw 15 ∈ lw_tbl ∧ goodWord (p_cw 15) = true := ⟨p_t2 (List.mem_of_getElem? (i := 19) rfl), rfl⟩
theorem p_cw16 : p_cw 16 ∈ lw_tbl ∧ goodWord (p_cw 16) = true := ⟨p_t2 (List.mem_of_getElem? (i := 23) rfl), rfl⟩
theorem p_cw17 : p_cw 17 ∈ lw_tbl ∧ goodWord (p_cw 17) = true := ⟨p_t2 (List.mem_of_getElem? (i := 124) rfl), rfl⟩
theorem p_cw18 : p_cw 18 ∈ lw_tbl ∧ goodWord (p_cw 18) = true := ⟨p_t2 (List.mem_of_getElem? (i := 221) rfl), rfl⟩
theorem p_cw19 : p_cw 19 ∈ lw_tbl ∧ goodWord (p_cw 19) = true := ⟨p_t2 (List.mem_of_getElem? (i := 135) rfl), rfl⟩
theorem p_cw20 : p_cw 20 ∈ lw_tbl ∧ goodWord (p_cw 20) = true := ⟨p_t2 (List.mem_of_getElem? (i := 139) rfl), rfl⟩
theorem p_cw21 : p_cw 21 ∈ lw_tbl ∧ goodWord (p_cw 21) = true := ⟨p_t2 (List.mem_of_getElem? (i := 143) rfl), rfl⟩
theorem p_cw22 : p_cw 22 ∈ lw_tbl ∧ goodWord (p_cw 22) = true := ⟨p_t2 (List.mem_of_getElem? (i := 150) rfl), rfl⟩
theorem p_cw24 : p_cw 24 ∈ lw_tbl ∧ goodWord (p_cw 24) = true := ⟨p_t2 (List.mem_of_getElem? (i := 57) rfl), rfl⟩
theorem p_cw25 : p_cw 25 ∈ lw_tbl ∧ goodWord (p_cw 25) = true := ⟨p_t2 (List.mem_of_getElem? (i := 61) rfl), rfl⟩
theorem p_cw26 : p_cw 26 ∈ lw_tbl ∧ goodWord (p_cw 26) = true := ⟨p_t2 (List.mem_of_getElem? (i := 194) rfl), rfl⟩
theorem p_cw27 : p_cw 27 ∈ lw_tbl ∧ goodWord (p_cw 27) = true := ⟨p_t1 (List.mem_of_getElem? (i := 226) rfl), rfl⟩
theorem p_cw28 : p_cw 28 ∈ lw_tbl ∧ goodWord (p_cw 28) = true := ⟨p_t2 (List.mem_of_getElem? (i := 128) rfl), rfl⟩
theorem p_cw30 : p_cw 30 ∈ lw_tbl ∧ goodWord (p_cw 30) = true := ⟨p_t1 (List.mem_of_getElem? (i := 135) rfl), rfl⟩
theorem p_cw31 : p_cw 31 ∈ lw_tbl ∧ goodWord (p_cw 31) = true := ⟨p_t1 (List.mem_of_getElem? (i := 210) rfl), rfl⟩
theorem p_cw32 : p_cw 32 ∈ lw_tbl ∧ goodWord (p_cw 32) = true := ⟨p_t2 (List.mem_of_getElem? (i := 69) rfl), rfl⟩
theorem p_cw33 : p_cw 33 ∈ lw_tbl ∧ goodWord (p_cw 33) = true := ⟨p_t1 (List.mem_of_getElem? (i := 239) rfl), rfl⟩
theorem p_cw34 : p_cw 34 ∈ lw_tbl ∧ goodWord (p_cw 34) = true := ⟨p_t2 (List.mem_of_getElem? (i := 114) rfl), rfl⟩
theorem p_cw35 : p_cw 35 ∈ lw_tbl ∧ goodWord (p_cw 35) = true := ⟨p_t2 (List.mem_of_getElem? (i := 157) rfl), rfl⟩
theorem p_cw36 : p_cw 36 ∈ lw_tbl ∧ goodWord (p_cw 36) = true := ⟨p_t1 (List.mem_of_getElem? (i := 214) rfl), rfl⟩
theorem p_cw37 : p_cw 37 ∈ lw_tbl ∧ goodWord (p_cw 37) = true := ⟨p_t1 (List.mem_of_getElem? (i := 218) rfl), rfl⟩
theorem p_cw38 : p_cw 38 ∈ lw_tbl ∧ goodWord (p_cw 38) = true := ⟨p_t1 (List.mem_of_getElem? (i := 222) rfl), rfl⟩
theorem p_cw39 : p_cw 39 ∈ lw_tbl ∧ goodWord (p_cw 39) = true := ⟨p_t2 (List.mem_of_getElem? (i := 92) rfl), rfl⟩
theorem p_cw40 : p_cw 40 ∈ lw_tbl ∧ goodWord (p_cw 40) = true := ⟨p_t2 (List.mem_of_getElem? (i := 104) rfl), rfl⟩
theorem p_cw41 : p_cw 41 ∈ lw_tbl ∧ goodWord (p_cw 41) = true := ⟨p_t2 (List.mem_of_getElem? (i := 181) rfl), rfl⟩
theorem p_cw42 : p_cw 42 ∈ lw_tbl ∧ goodWord (p_cw 42) = true := ⟨p_t2 (List.mem_of_getElem? (i := 172) rfl), rfl⟩
theorem p_cw44 : p_cw 44 ∈ lw_tbl ∧ goodWord (p_cw 44) = true := ⟨p_t1 (List.mem_of_getElem? (i := 139) rfl), rfl⟩
theorem p_cw45 : p_cw 45 ∈ lw_tbl ∧ goodWord (p_cw 45) = true := ⟨p_t2 (List.mem_of_getElem? (i := 28) rfl), rfl⟩
theorem p_cw46 : p_cw 46 ∈ lw_tbl ∧ goodWord (p_cw 46) = true := ⟨p_t2 (List.mem_of_getElem? (i := 207) rfl), rfl⟩
theorem p_cw47 : p_cw 47 ∈ lw_tbl ∧ goodWord (p_cw 47) = true := ⟨p_t1 (List.mem_of_getElem? (i := 131) rfl), rfl⟩
theorem p_cw48 : p_cw 48 ∈ lw_tbl ∧ goodWord (p_cw 48) = true := ⟨p_t1 (List.mem_of_getElem? (i := 230) rfl), rfl⟩
theorem p_cw49 : p_cw 49 ∈ lw_tbl ∧ goodWord (p_cw 49) = true := ⟨p_t2 (List.mem_of_getElem? (i := 110) rfl), rfl⟩
theorem p_cw50 : p_cw 50 ∈ lw_tbl ∧ goodWord (p_cw 50) = true := ⟨p_t2 (List.mem_of_getElem? (i := 225) rfl), rfl⟩
theorem p_cw51 : p_cw 51 ∈ lw_tbl ∧ goodWord (p_cw 51) = true := ⟨p_t2 (List.mem_of_getElem? (i := 65) rfl), rfl⟩
theorem p_cw52 : p_cw 52 ∈ lw_tbl ∧ goodWord (p_cw 52) = true := ⟨p_t2 (List.mem_of_getElem? (i := 74) rfl), rfl⟩
theorem p_cw53 : p_cw 53 ∈ lw_tbl ∧ goodWord (p_cw 53) = true := ⟨p_t2 (List.mem_of_getElem? (i := 168) rfl), rfl⟩
theorem p_cw54 : p_cw 54 ∈ lw_tbl ∧ goodWord (p_cw 54) = true := ⟨p_t2 (List.mem_of_getElem? (i := 176) rfl), rfl⟩
theorem p_cw55 : p_cw 55 ∈ lw_tbl ∧ goodWord (p_cw 55) = true := ⟨p_t2 (List.mem_of_getElem? (i := 186) rfl), rfl⟩
theorem p_cw56 : p_cw 56 ∈ lw_tbl ∧ goodWord (p_cw 56) = true := ⟨p_t2 (List.mem_of_getElem? (i := 235) rfl), rfl⟩
theorem p_cw57 : p_cw 57 ∈ lw_tbl ∧ goodWord (p_cw 57) = true := ⟨p_t2 (List.mem_of_getElem? (i := 83) rfl), rfl⟩
theorem p_cw58 : p_cw 58 ∈ lw_tbl ∧ goodWord (p_cw 58) = true := ⟨p_t2 (List.mem_of_getElem? (i := 161) rfl), rfl⟩
theorem p_cw60 : p_cw 60 ∈ lw_tbl ∧ goodWord (p_cw 60) = true := ⟨p_t2 (List.mem_of_getElem? (i := 99) rfl), rfl⟩
theorem p_cw71 : p_cw 71 ∈ lw_tbl ∧ goodWord (p_cw 71) = true := ⟨p_t2 (List.mem_of_getElem? (i := 78) rfl), rfl⟩
theorem p_cw72 : p_cw 72 ∈ lw_tbl ∧ goodWord (p_cw 72) = true := ⟨p_t2 (List.mem_of_getElem? (i := 87) rfl), rfl⟩
theorem p_cw73 : p_cw 73 ∈ lw_tbl ∧ goodWord (p_cw 73) = true := ⟨p_t1 (List.mem_of_getElem? (i := 235) rfl), rfl⟩
theorem p_cw75 : p_cw 75 ∈ lw_tbl ∧ goodWord (p_cw 75) = true := ⟨p_t2 (List.mem_of_getElem? (i := 32) rfl), rfl⟩
theorem p_cw76 : p_cw 76 ∈ lw_tbl ∧ goodWord (p_cw 76) = true := ⟨p_t2 (List.mem_of_getElem? (i := 36) rfl), rfl⟩
theorem p_cw80 : p_cw 80 ∈ lw_tbl ∧ goodWord (p_cw 80) = true := ⟨p_t2 (List.mem_of_getElem? (i := 120) rfl), rfl⟩
theorem p_cw81 : p_cw 81 ∈ lw_tbl ∧ goodWord (p_cw 81) = true := ⟨p_t2 (List.mem_of_getElem? (i := 230) rfl), rfl⟩
theorem p_cw82 : p_cw 82 ∈ lw_tbl ∧ goodWord (p_cw 82) = true := ⟨p_t2 (List.mem_of_getElem? (i := 216) rfl), rfl⟩
theorem p_cw83 : p_cw 83 ∈ lw_tbl ∧ goodWord (p_cw 83) = true := ⟨p_t3 (List.mem_of_getElem? (i := 0) rfl), rfl⟩
theorem p_cw84 : p_cw 84 ∈ lw_tbl ∧ goodWord (p_cw 84) = true := ⟨p_t3 (List.mem_of_getElem? (i := 4) rfl), rfl⟩
theorem p_cw85 : p_cw 85 ∈ lw_tbl ∧ goodWord (p_cw 85) = true := ⟨p_t2 (List.mem_of_getElem? (i := 190) rfl), rfl⟩
theorem p_cw86 : p_cw 86 ∈ lw_tbl ∧ goodWord (p_cw 86) = true := ⟨p_t2 (List.mem_of_getElem? (i := 200) rfl), rfl⟩
theorem p_cw87 : p_cw 87 ∈ lw_tbl ∧ goodWord (p_cw 87) = true := ⟨p_t2 (List.mem_of_getElem? (i := 211) rfl), rfl⟩
theorem p_cw94 : p_cw 94 ∈ lw_tbl ∧ goodWord (p_cw 94) = true := ⟨p_t1 (List.mem_of_getElem? (i := 120) rfl), rfl⟩
theorem p_cw95 : p_cw 95 ∈ lw_tbl ∧ goodWord (p_cw 95) = true := ⟨p_t1 (List.mem_of_getElem? (i := 127) rfl), rfl⟩
theorem p_cw96 : p_cw 96 ∈ lw_tbl ∧ goodWord (p_cw 96) = true := ⟨p_t2 (List.mem_of_getElem? (i := 203) rfl), rfl⟩
theorem p_cw97 : p_cw 97 ∈ lw_tbl ∧ goodWord (p_cw 97) = true := ⟨p_t2 (List.mem_of_getElem? (i := 164) rfl), rfl⟩
theorem p_cw98 : p_cw 98 ∈ lw_tbl ∧ goodWord (p_cw 98) = true := ⟨p_t2 (List.mem_of_getElem? (i := 95) rfl), rfl⟩
theorem p_cw99 : p_cw 99 ∈ lw_tbl ∧ goodWord (p_cw 99) = true := ⟨p_t1 (List.mem_of_getElem? (i := 124) rfl), rfl⟩
theorem p_cwc0 : ∀ m ∈ ([15, 16, 17, 18, 19, 20, 21, 22, 24, 25, 26, 27, 28, 30, 31, 32] : List Nat), p_cw m ∈ lw_tbl ∧ goodWord (p_cw m) = true := List.forall_mem_cons.mpr ⟨p_cw15, List.forall_mem_cons.mpr ⟨p_cw16, List.forall_mem_cons.mpr ⟨p_cw17, List.forall_mem_cons.mpr ⟨p_cw18, List.forall_mem_cons.mpr ⟨p_cw19, List.forall_mem_cons.mpr ⟨p_cw20, List.forall_mem_cons.mpr ⟨p_cw21, List.forall_mem_cons.mpr ⟨p_cw22, List.forall_mem_cons.mpr ⟨p_cw24, List.forall_mem_cons.mpr ⟨p_cw25, List.forall_mem_cons.mpr ⟨p_cw26, List.forall_mem_cons.mpr ⟨p_cw27, List.forall_mem_cons.mpr ⟨p_cw28, List.forall_mem_cons.mpr ⟨p_cw30, List.forall_mem_cons.mpr ⟨p_cw31, List.forall_mem_cons.mpr ⟨p_cw32, fun _ h => absurd h List.not_mem_nil⟩⟩⟩⟩⟩⟩⟩⟩⟩⟩⟩⟩⟩⟩⟩⟩
theorem p_cwc1 : ∀ m ∈ ([33, 34, 35, 36, 37, 38, 39, 40, 41, 42, 44, 45, 46, 47, 48, 49] : List Nat), p_cw m ∈ lw_tbl ∧ goodWord (p_cw m) = true := List.forall_mem_cons.mpr ⟨p_cw33, List.forall_mem_cons.mpr ⟨p_cw34, List.forall_mem_cons.mpr ⟨p_cw35, List.forall_mem_cons.mpr ⟨p_cw36, List.forall_mem_cons.mpr ⟨p_cw37, List.forall_mem_cons.mpr ⟨p_cw38, List.forall_mem_cons.mpr ⟨p_cw39, List.forall_mem_cons.mpr ⟨p_cw40, List.forall_mem_cons.mpr ⟨p_cw41, List.forall_mem_cons.mpr ⟨p_cw42, List.forall_mem_cons.mpr ⟨p_cw44, List.forall_mem_cons.mpr ⟨p_cw45, List.forall_mem_cons.mpr ⟨p_cw46, List.forall_mem_cons.mpr ⟨p_cw47, List.forall_mem_cons.mpr ⟨p_cw48, List.forall_mem_cons.mpr ⟨p_cw49, fun _ h => absurd h List.not_mem_nil⟩⟩⟩⟩⟩⟩⟩⟩⟩⟩⟩⟩⟩⟩⟩⟩
theorem p_cwc2 : ∀ m ∈ ([50, 51, 52, 53, 54, 55, 56, 57, 58, 60, 71, 72, 73, 75, 76, 80] : List Nat), p_cw m ∈ lw_tbl ∧ goodWord (p_cw m) = true := List.forall_mem_cons.mpr ⟨p_cw50, List.forall_mem_cons.mpr ⟨p_cw51, List.forall_mem_cons.mpr ⟨p_cw52, List.forall_mem_cons.mpr ⟨p_cw53, List.forall_mem_cons.mpr ⟨p_cw54, List.forall_mem_cons.mpr ⟨p_cw55, List.forall_mem_cons.mpr ⟨p_cw56, List.forall_mem_cons.mpr ⟨p_cw57, List.forall_mem_cons.mpr ⟨p_cw58, List.forall_mem_cons.mpr ⟨p_cw60, List.forall_mem_cons.mpr ⟨p_cw71, List.forall_mem_cons.mpr ⟨p_cw72, List.forall_mem_cons.mpr ⟨p_cw73, List.forall_mem_cons.mpr ⟨p_cw75, List.forall_mem_cons.mpr ⟨p_cw76, List.forall_mem_cons.mpr ⟨p_cw80, fun _ h => absurd h List.not_mem_nil⟩⟩⟩⟩⟩⟩⟩⟩⟩⟩⟩⟩⟩⟩⟩⟩
theorem p_cwc3 : ∀ m ∈ ([81, 82, 83, 84, 85, 86, 87, 94, 95, 96, 97, 98, 99] : List Nat), p_cw m ∈ lw_tbl ∧ goodWord (p_cw m) = true := List.forall_mem_cons.mpr ⟨p_cw81, List.forall_mem_cons.mpr ⟨p_cw82, List.forall_mem_cons.mpr ⟨p_cw83, List.forall_mem_cons.mpr ⟨p_cw84, List.forall_mem_cons.mpr ⟨p_cw85, List.forall_mem_cons.mpr ⟨p_cw86, List.forall_mem_cons.mpr ⟨p_cw87, List.forall_mem_cons.mpr ⟨p_cw94, List.forall_mem_cons.mpr ⟨p_cw95, List.forall_mem_cons.mpr ⟨p_cw96, List.forall_mem_cons.mpr ⟨p_cw97, List.forall_mem_cons.mpr ⟨p_cw98, List.forall_mem_cons.mpr ⟨p_cw99, fun _ h => absurd h List.not_mem_nil⟩⟩⟩⟩⟩⟩⟩⟩⟩⟩⟩⟩⟩
theorem p_cw_ok : ∀ m ∈ p_ms, p_cw m ∈ lw_tbl ∧ goodWord (p_cw m) = true := by
  show ∀ m ∈ ([15, 16, 17, 18, 19, 20, 21, 22, 24, 25, 26, 27, 28, 30, 31, 32] : List Nat) ++ (([33, 34, 35, 36, 37, 38, 39, 40, 41, 42, 44, 45, 46, 47, 48, 49] : List Nat) ++ (([50, 51, 52, 53, 54, 55, 56, 57, 58, 60, 71, 72, 73, 75, 76, 80] : List Nat) ++ (([81, 82, 83, 84, 85, 86, 87, 94, 95, 96, 97, 98, 99] : List Nat)))), _
  exact List.forall_mem_append.mpr ⟨p_cwc0, List.forall_mem_append.mpr ⟨p_cwc1, List.forall_mem_append.mpr ⟨p_cwc2, p_cwc3⟩⟩⟩
theorem p_k1 : p_fldT.all (fun q => p_hb (.fieldLink (p_nm q.1.1) q.1.2 (p_TT q.2.1 q.2.2).1 (p_TT q.2.1 q.2.2).2.1 (p_TT q.2.1 q.2.2).2.2.1) && decide (q.2.2 < p_NN q.2.1) && decide (q.2.1 < 5)) = true := by decide +kernel
theorem p_k2 : (List.range 5).all (fun c => ((List.range (p_NN c)).map (u_lay (p_nm c) (p_TT c))).all p_hb) = true := by decide +kernel
theorem p_k3 : p_cIT.all (fun q => p_hb (.constant (p_nm q.1.1) q.1.2 q.2)) = true := by decide +kernel
theorem p_k4 : p_cJT.all (fun q => p_hb (.constantLong (p_nm q.1.1) q.1.2 q.2)) = true := by decide +kernel
def p_nst : Cond := .methodLinkNest "LiftingWorkshop" 9 yX3_init "LiftingWorkshop"
/-- the j-th list of words: 0 is the private methods, 1.. the tables -/
def p_sub (j : Nat) : List Cond := match j with
  | 0 => k2_sels lw_privs
  | 1 => tables_1_1
  | 2 => tables_1_2
  | _ => tables_1_3
def p_hbi (q : Nat × Nat) (w : Cond) : Bool := decide ((p_sub q.1)[q.2]? = some w) && goodWord w
theorem p_hbi_big {q : Nat × Nat} {w : Cond} (h : p_hbi q w = true) : w ∈ p_big := by
  simp only [p_hbi, Bool.and_eq_true, decide_eq_true_eq] at h
  have h1 := List.mem_of_getElem? h.1
  refine List.mem_filter.mpr ⟨?_, h.2⟩
  revert h1
  unfold p_sub
  split <;> intro h1
  · exact List.mem_append_left _ h1
  · exact p_t1 h1
  · exact p_t2 h1
  · exact p_t3 h1

def p_ivi : List (Nat × Nat) := [(2, 125), (2, 130), (2, 131), (2, 132), (2, 136), (2, 140), (2, 147), (2, 129), (2, 195), (1, 211), (2, 70), (2, 115), (2, 105), (1, 215), (1, 219), (2, 182), (1, 132), (1, 207), (1, 223), (2, 29), (1, 232), (2, 54), (2, 58), (2, 208), (2, 16), (2, 20), (2, 75), (2, 111), (2, 117), (2, 89), (1, 236), (2, 227), (2, 66), (2, 169), (2, 178), (2, 187), (2, 237), (3, 1), (2, 84), (2, 33), (2, 101), (2, 191), (2, 121), (2, 154), (2, 213), (2, 231), (2, 217), (2, 218), (2, 198), (2, 212), (2, 204), (2, 165), (2, 173), (2, 71), (2, 80), (2, 183), (2, 96), (2, 107), (2, 158), (1, 125), (1, 128), (1, 136), (1, 227), (2, 25), (2, 62), (2, 93), (2, 162), (2, 201), (2, 222), (2, 232), (1, 118), (1, 122)]
def p_k5b (x : Nat × Nat) (q : (Nat × Nat) × (Nat × Nat × Nat)) : Bool := if q.2.1 = 0 then (match q.2.2.1 with
  | 0 => p_hbi x (.methodLink (p_nm q.1.1) q.1.2 Lib.MathLoose.abs_long.x)
  | _ => false) else decide (q.2.2.1 ∈ p_ms) && p_hbi x (.methodLink (p_nm q.1.1) q.1.2 (p_y q.2.2.1)) && decide ((parseMethodDescriptor (p_y q.2.2.1).desc).map (fun d => d.parameters.length + (if p_virt q.2.2.1 = true then 1 else 0)) = some q.2.2.2)
theorem p_k5 : (p_ivi.zip p_invT).all (fun z => p_k5b z.1 z.2) = true := by decide +kernel
theorem p_k5l : p_invT.length ≤ p_ivi.length := by decide +kernel
def p_k6b (x : (Nat × Nat) × (Nat × Nat) × (Nat × Nat)) (m : Nat) : Bool := p_hbi x.1 (.initialized (p_y m).cls) && (if p_virt m = true then p_hbi x.2.1 (.instanceMethod (p_y m)) && p_hbi x.2.2 (.selects (p_y m).cls (p_y m) (p_y m)) else p_hbi x.2.1 (.static (p_y m))) && decide ((p_y m).cls ≠ "java/lang/invoke/MethodHandle" ∧ (p_y m).cls ≠ "java/lang/invoke/VarHandle") && plainName (p_y m).cls && decide ((p_y m).cls = p_nm (p_own m)) && decide (p_own m < 7)
def p_msi : List ((Nat × Nat) × (Nat × Nat) × (Nat × Nat)) := [((1, 3), (2, 17), (2, 18)), ((1, 3), (2, 21), (2, 22)), ((1, 3), (2, 122), (2, 123)), ((1, 3), (2, 219), (2, 220)), ((1, 3), (2, 134), (0, 7)), ((1, 3), (2, 138), (0, 8)), ((1, 3), (2, 142), (0, 9)), ((1, 3), (2, 149), (0, 10)), ((1, 4), (2, 55), (2, 56)), ((1, 4), (2, 59), (2, 60)), ((1, 4), (2, 192), (2, 193)), ((1, 4), (1, 224), (1, 225)), ((1, 4), (2, 126), (2, 127)), ((1, 2), (1, 133), (1, 134)), ((1, 2), (1, 208), (1, 209)), ((1, 2), (2, 67), (2, 68)), ((1, 2), (1, 237), (1, 238)), ((1, 2), (2, 112), (2, 113)), ((1, 2), (2, 155), (2, 156)), ((1, 2), (1, 212), (1, 213)), ((1, 2), (1, 216), (1, 217)), ((1, 2), (1, 220), (1, 221)), ((1, 2), (2, 90), (2, 91)), ((1, 2), (2, 102), (2, 103)), ((1, 2), (2, 179), (2, 180)), ((1, 2), (2, 170), (2, 171)), ((1, 1), (1, 137), (1, 138)), ((1, 1), (2, 26), (2, 27)), ((1, 1), (2, 205), (2, 206)), ((1, 1), (1, 129), (1, 130)), ((1, 1), (1, 228), (1, 229)), ((1, 1), (2, 108), (2, 109)), ((1, 1), (2, 223), (2, 224)), ((1, 1), (2, 63), (2, 64)), ((1, 1), (2, 72), (2, 73)), ((1, 1), (2, 166), (2, 167)), ((1, 1), (2, 174), (2, 175)), ((1, 1), (2, 184), (2, 185)), ((1, 1), (2, 233), (2, 234)), ((1, 1), (2, 81), (2, 82)), ((1, 1), (2, 159), (2, 160)), ((1, 1), (2, 97), (2, 98)), ((1, 1), (2, 77), (0, 4)), ((1, 1), (2, 86), (0, 5)), ((1, 1), (1, 234), (0, 1)), ((1, 1), (2, 31), (0, 2)), ((1, 1), (2, 35), (0, 3)), ((1, 1), (2, 119), (0, 6)), ((1, 1), (2, 229), (0, 14)), ((1, 1), (2, 215), (0, 13)), ((1, 1), (2, 239), (0, 15)), ((1, 1), (3, 3), (0, 16)), ((1, 1), (2, 189), (0, 11)), ((1, 1), (2, 199), (0, 0)), ((1, 1), (2, 210), (0, 12)), ((1, 0), (1, 119), (0, 0)), ((1, 0), (1, 126), (0, 0)), ((1, 0), (2, 202), (0, 0)), ((1, 0), (2, 163), (0, 0)), ((1, 0), (2, 94), (0, 0)), ((1, 0), (1, 123), (0, 0))]
theorem p_k6 : (p_msi.zip p_ms).all (fun z => p_k6b z.1 z.2) = true := by decide +kernel
theorem p_k6l : p_ms.length ≤ p_msi.length := by decide +kernel
theorem p_k7 : p_hb (.static Lib.MathLoose.abs_long.x) = true ∧ p_hb (.initialized "java/lang/Math") = true := by decide +kernel
theorem p_k8_abs_long : Cond.code Lib.MathLoose.abs_long.x Lib.MathLoose.abs_long.code 2 (some .long) ∈ p_big := List.mem_filter.mpr ⟨p_t2 (List.mem_of_getElem? (i := 197) rfl), rfl⟩
