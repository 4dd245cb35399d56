/-! WHAT THE TABLES SAY, beside the tables of the pure interpreter; written by wip/whole/gen/facts.py -/
def p_TT (c : Nat) : u_T := match c with
  | 0 => TX0
  | 1 => TX1
  | 2 => TX2
  | 3 => TX3
  | 4 => TX4
  | _ => TX5
def p_NN (c : Nat) : Nat := match c with
  | 0 => 8
  | 1 => 2
  | 2 => 1
  | 3 => 2
  | 4 => 8
  | _ => 21
def p_hb (w : Cond) : Bool := decide (w ∈ lw_tbl) && goodWord w
def p_big : List Cond := lw_tbl.filter goodWord
theorem p_hb_big {w : Cond} (h : p_hb w = true) : w ∈ p_big := by
  simp only [p_hb, Bool.and_eq_true, decide_eq_true_eq] at h
  exact List.mem_filter.mpr h
theorem p_lk {α β : Type} [BEq α] [LawfulBEq α] {a : α} {b : β} : ∀ {l : List (α × β)}, l.lookup a = some b → (a, b) ∈ l
  | [], h => by simp at h
  | (x, y) :: l, h => by
    rw [List.lookup_cons] at h
    split at h
    · next e => cases h; rw [eq_of_beq e]; exact List.mem_cons_self
    · exact List.mem_cons_of_mem _ (p_lk h)
/-- the word of a method's code -/
def p_cw (mi : Nat) : Cond := match p_hh mi with
  | [] => .code (p_y mi) (p_b mi) (p_ml mi) (p_rt mi)
  | h => .codeWith (p_y mi) (p_b mi) (p_ml mi) (p_rt mi) h
def p_ms : List Nat := [1, 2, 3, 4, 5, 6, 7, 8, 9, 10, 11, 12, 13, 15, 16, 17, 18, 19, 20, 21, 22, 24, 25, 26, 27, 28, 30, 31, 32, 33, 34, 35, 36, 37, 38, 39, 40, 41, 42, 44, 45, 46, 47, 48, 49, 50, 51, 52, 53, 54, 55, 56, 57, 58, 59, 60, 61, 62, 63, 64, 65, 66, 67, 68, 69, 70, 71, 72, 73, 74, 75, 76, 77, 78, 79, 80, 81, 82, 83, 84, 85, 86, 87, 88, 89, 90, 91, 92, 93, 95, 96, 97, 98, 99, 100, 101, 102, 103, 104, 105, 106, 107, 108, 109, 110, 111, 112, 113, 114, 115, 116, 117, 118, 119, 120, 121, 122, 123, 124, 125, 126, 127, 128, 129, 130, 131, 132, 133, 134, 135, 136, 137, 138, 139, 140, 141, 142, 143, 144, 145, 146, 147, 148, 149, 150, 151, 152, 153, 154, 155, 156, 157, 158, 159, 160, 161, 162, 163, 164, 165, 166, 167, 168, 169, 170, 171, 172, 173, 174, 175, 176, 177, 178, 179, 180, 181, 182, 183, 184, 185]
theorem p_t1 {w : Cond} (h : w ∈ tables_1_1) : w ∈ lw_tbl := List.mem_append_right _ (List.mem_append_left _ h)
theorem p_t2 {w : Cond} (h : w ∈ tables_1_2) : w ∈ lw_tbl := List.mem_append_right _ (List.mem_append_right _ (List.mem_append_left _ h))
theorem p_t3 {w : Cond} (h : w ∈ tables_1_3) : w ∈ lw_tbl := List.mem_append_right _ (List.mem_append_right _ (List.mem_append_right _ (List.mem_append_left _ h)))
theorem p_t4 {w : Cond} (h : w ∈ tables_1_4) : w ∈ lw_tbl := List.mem_append_right _ (List.mem_append_right _ (List.mem_append_right _ (List.mem_append_right _ (List.mem_append_left _ h))))
theorem p_t5 {w : Cond} (h : w ∈ tables_1_5) : w ∈ lw_tbl := List.mem_append_right _ (List.mem_append_right _ (List.mem_append_right _ (List.mem_append_right _ (List.mem_append_right _ (h)))))
theorem p_cw1 : p_cw 1 ∈ lw_tbl ∧ goodWord (p_cw 1) = true := ⟨p_t3 (List.mem_of_getElem? (i := 159) rfl), rfl⟩
theorem p_cw2 : p_cw 2 ∈ lw_tbl ∧ goodWord (p_cw 2) = true := ⟨p_t3 (List.mem_of_getElem? (i := 171) rfl), rfl⟩
theorem p_cw3 : p_cw 3 ∈ lw_tbl ∧ goodWord (p_cw 3) = true := ⟨p_t3 (List.mem_of_getElem? (i := 115) rfl), rfl⟩
theorem p_cw4 : p_cw 4 ∈ lw_tbl ∧ goodWord (p_cw 4) = true := ⟨p_t3 (List.mem_of_getElem? (i := 191) rfl), rfl⟩
theorem p_cw5 : p_cw 5 ∈ lw_tbl ∧ goodWord (p_cw 5) = true := ⟨p_t3 (List.mem_of_getElem? (i := 195) rfl), rfl⟩
theorem p_cw6 : p_cw 6 ∈ lw_tbl ∧ goodWord (p_cw 6) = true := ⟨p_t3 (List.mem_of_getElem? (i := 120) rfl), rfl⟩
theorem p_cw7 : p_cw 7 ∈ lw_tbl ∧ goodWord (p_cw 7) = true := ⟨p_t3 (List.mem_of_getElem? (i := 143) rfl), rfl⟩
theorem p_cw8 : p_cw 8 ∈ lw_tbl ∧ goodWord (p_cw 8) = true := ⟨p_t3 (List.mem_of_getElem? (i := 155) rfl), rfl⟩
theorem p_cw9 : p_cw 9 ∈ lw_tbl ∧ goodWord (p_cw 9) = true := ⟨p_t3 (List.mem_of_getElem? (i := 147) rfl), rfl⟩
theorem p_cw10 : p_cw 10 ∈ lw_tbl ∧ goodWord (p_cw 10) = true := ⟨p_t3 (List.mem_of_getElem? (i := 151) rfl), rfl⟩
theorem p_cw11 : p_cw 11 ∈ lw_tbl ∧ goodWord (p_cw 11) = true := ⟨p_t3 (List.mem_of_getElem? (i := 129) rfl), rfl⟩
theorem p_cw12 : p_cw 12 ∈ lw_tbl ∧ goodWord (p_cw 12) = true := ⟨p_t3 (List.mem_of_getElem? (i := 135) rfl), rfl⟩
theorem p_cw13 : p_cw 13 ∈ lw_tbl ∧ goodWord (p_cw 13) = true := ⟨p_t3 (List.mem_of_getElem? (i := 139) rfl), rfl⟩
theorem p_cw15 : p_cw 15 ∈ lw_tbl ∧ goodWord (p_cw 15) = true := ⟨p_t2 (List.mem_of_getElem? (i := 142) rfl), rfl⟩
theorem p_cw16 : p_cw 16 ∈ lw_tbl ∧ goodWord (p_cw 16) = true := ⟨p_t2 (List.mem_of_getElem? (i := 146) rfl), rfl⟩
theorem p_cw17 : p_cw 17 ∈ lw_tbl ∧ goodWord (p_cw 17) = true := ⟨p_t2 (List.mem_of_getElem? (i := 172) rfl), rfl⟩
theorem p_cw18 : p_cw 18 ∈ lw_tbl ∧ goodWord (p_cw 18) = true := ⟨p_t2 (List.mem_of_getElem? (i := 105) rfl), rfl⟩
theorem p_cw19 : p_cw 19 ∈ lw_tbl ∧ goodWord (p_cw 19) = true := ⟨p_t2 (List.mem_of_getElem? (i := 109) rfl), rfl⟩
theorem p_cw20 : p_cw 20 ∈ lw_tbl ∧ goodWord (p_cw 20) = true := ⟨p_t2 (List.mem_of_getElem? (i := 113) rfl), rfl⟩
theorem p_cw21 : p_cw 21 ∈ lw_tbl ∧ goodWord (p_cw 21) = true := ⟨p_t2 (List.mem_of_getElem? (i := 118) rfl), rfl⟩
theorem p_cw22 : p_cw 22 ∈ lw_tbl ∧ goodWord (p_cw 22) = true := ⟨p_t2 (List.mem_of_getElem? (i := 126) rfl), rfl⟩
theorem p_cw24 : p_cw 24 ∈ lw_tbl ∧ goodWord (p_cw 24) = true := ⟨p_t2 (List.mem_of_getElem? (i := 67) rfl), rfl⟩
theorem p_cw25 : p_cw 25 ∈ lw_tbl ∧ goodWord (p_cw 25) = true := ⟨p_t2 (List.mem_of_getElem? (i := 71) rfl), rfl⟩
theorem p_cw26 : p_cw 26 ∈ lw_tbl ∧ goodWord (p_cw 26) = true := ⟨p_t2 (List.mem_of_getElem? (i := 224) rfl), rfl⟩
theorem p_cw27 : p_cw 27 ∈ lw_tbl ∧ goodWord (p_cw 27) = true := ⟨p_t2 (List.mem_of_getElem? (i := 9) rfl), rfl⟩
theorem p_cw28 : p_cw 28 ∈ lw_tbl ∧ goodWord (p_cw 28) = true := ⟨p_t2 (List.mem_of_getElem? (i := 86) rfl), rfl⟩
theorem p_cw30 : p_cw 30 ∈ lw_tbl ∧ goodWord (p_cw 30) = true := ⟨p_t1 (List.mem_of_getElem? (i := 129) rfl), rfl⟩
theorem p_cw31 : p_cw 31 ∈ lw_tbl ∧ goodWord (p_cw 31) = true := ⟨p_t1 (List.mem_of_getElem? (i := 233) rfl), rfl⟩
theorem p_cw32 : p_cw 32 ∈ lw_tbl ∧ goodWord (p_cw 32) = true := ⟨p_t1 (List.mem_of_getElem? (i := 137) rfl), rfl⟩
theorem p_cw33 : p_cw 33 ∈ lw_tbl ∧ goodWord (p_cw 33) = true := ⟨p_t1 (List.mem_of_getElem? (i := 141) rfl), rfl⟩
theorem p_cw34 : p_cw 34 ∈ lw_tbl ∧ goodWord (p_cw 34) = true := ⟨p_t2 (List.mem_of_getElem? (i := 162) rfl), rfl⟩
theorem p_cw35 : p_cw 35 ∈ lw_tbl ∧ goodWord (p_cw 35) = true := ⟨p_t2 (List.mem_of_getElem? (i := 176) rfl), rfl⟩
theorem p_cw36 : p_cw 36 ∈ lw_tbl ∧ goodWord (p_cw 36) = true := ⟨p_t1 (List.mem_of_getElem? (i := 237) rfl), rfl⟩
theorem p_cw37 : p_cw 37 ∈ lw_tbl ∧ goodWord (p_cw 37) = true := ⟨p_t2 (List.mem_of_getElem? (i := 1) rfl), rfl⟩
theorem p_cw38 : p_cw 38 ∈ lw_tbl ∧ goodWord (p_cw 38) = true := ⟨p_t2 (List.mem_of_getElem? (i := 5) rfl), rfl⟩
theorem p_cw39 : p_cw 39 ∈ lw_tbl ∧ goodWord (p_cw 39) = true := ⟨p_t2 (List.mem_of_getElem? (i := 100) rfl), rfl⟩
theorem p_cw40 : p_cw 40 ∈ lw_tbl ∧ goodWord (p_cw 40) = true := ⟨p_t2 (List.mem_of_getElem? (i := 96) rfl), rfl⟩
theorem p_cw41 : p_cw 41 ∈ lw_tbl ∧ goodWord (p_cw 41) = true := ⟨p_t2 (List.mem_of_getElem? (i := 208) rfl), rfl⟩
theorem p_cw42 : p_cw 42 ∈ lw_tbl ∧ goodWord (p_cw 42) = true := ⟨p_t1 (List.mem_of_getElem? (i := 149) rfl), rfl⟩
theorem p_cw44 : p_cw 44 ∈ lw_tbl ∧ goodWord (p_cw 44) = true := ⟨p_t1 (List.mem_of_getElem? (i := 162) rfl), rfl⟩
theorem p_cw45 : p_cw 45 ∈ lw_tbl ∧ goodWord (p_cw 45) = true := ⟨p_t2 (List.mem_of_getElem? (i := 18) rfl), rfl⟩
theorem p_cw46 : p_cw 46 ∈ lw_tbl ∧ goodWord (p_cw 46) = true := ⟨p_t2 (List.mem_of_getElem? (i := 78) rfl), rfl⟩
theorem p_cw47 : p_cw 47 ∈ lw_tbl ∧ goodWord (p_cw 47) = true := ⟨p_t1 (List.mem_of_getElem? (i := 125) rfl), rfl⟩
theorem p_cw48 : p_cw 48 ∈ lw_tbl ∧ goodWord (p_cw 48) = true := ⟨p_t2 (List.mem_of_getElem? (i := 137) rfl), rfl⟩
theorem p_cw49 : p_cw 49 ∈ lw_tbl ∧ goodWord (p_cw 49) = true := ⟨p_t2 (List.mem_of_getElem? (i := 153) rfl), rfl⟩
theorem p_cw50 : p_cw 50 ∈ lw_tbl ∧ goodWord (p_cw 50) = true := ⟨p_t2 (List.mem_of_getElem? (i := 183) rfl), rfl⟩
theorem p_cw51 : p_cw 51 ∈ lw_tbl ∧ goodWord (p_cw 51) = true := ⟨p_t1 (List.mem_of_getElem? (i := 133) rfl), rfl⟩
theorem p_cw52 : p_cw 52 ∈ lw_tbl ∧ goodWord (p_cw 52) = true := ⟨p_t2 (List.mem_of_getElem? (i := 196) rfl), rfl⟩
theorem p_cw53 : p_cw 53 ∈ lw_tbl ∧ goodWord (p_cw 53) = true := ⟨p_t1 (List.mem_of_getElem? (i := 145) rfl), rfl⟩
theorem p_cw54 : p_cw 54 ∈ lw_tbl ∧ goodWord (p_cw 54) = true := ⟨p_t2 (List.mem_of_getElem? (i := 203) rfl), rfl⟩
theorem p_cw55 : p_cw 55 ∈ lw_tbl ∧ goodWord (p_cw 55) = true := ⟨p_t2 (List.mem_of_getElem? (i := 216) rfl), rfl⟩
theorem p_cw56 : p_cw 56 ∈ lw_tbl ∧ goodWord (p_cw 56) = true := ⟨p_t2 (List.mem_of_getElem? (i := 237) rfl), rfl⟩
theorem p_cw57 : p_cw 57 ∈ lw_tbl ∧ goodWord (p_cw 57) = true := ⟨p_t3 (List.mem_of_getElem? (i := 13) rfl), rfl⟩
theorem p_cw58 : p_cw 58 ∈ lw_tbl ∧ goodWord (p_cw 58) = true := ⟨p_t3 (List.mem_of_getElem? (i := 25) rfl), rfl⟩
theorem p_cw59 : p_cw 59 ∈ lw_tbl ∧ goodWord (p_cw 59) = true := ⟨p_t3 (List.mem_of_getElem? (i := 32) rfl), rfl⟩
theorem p_cw60 : p_cw 60 ∈ lw_tbl ∧ goodWord (p_cw 60) = true := ⟨p_t3 (List.mem_of_getElem? (i := 42) rfl), rfl⟩
theorem p_cw61 : p_cw 61 ∈ lw_tbl ∧ goodWord (p_cw 61) = true := ⟨p_t3 (List.mem_of_getElem? (i := 51) rfl), rfl⟩
theorem p_cw62 : p_cw 62 ∈ lw_tbl ∧ goodWord (p_cw 62) = true := ⟨p_t3 (List.mem_of_getElem? (i := 67) rfl), rfl⟩
theorem p_cw63 : p_cw 63 ∈ lw_tbl ∧ goodWord (p_cw 63) = true := ⟨p_t3 (List.mem_of_getElem? (i := 74) rfl), rfl⟩
theorem p_cw64 : p_cw 64 ∈ lw_tbl ∧ goodWord (p_cw 64) = true := ⟨p_t3 (List.mem_of_getElem? (i := 93) rfl), rfl⟩
theorem p_cw65 : p_cw 65 ∈ lw_tbl ∧ goodWord (p_cw 65) = true := ⟨p_t1 (List.mem_of_getElem? (i := 153) rfl), rfl⟩
theorem p_cw66 : p_cw 66 ∈ lw_tbl ∧ goodWord (p_cw 66) = true := ⟨p_t3 (List.mem_of_getElem? (i := 101) rfl), rfl⟩
theorem p_cw67 : p_cw 67 ∈ lw_tbl ∧ goodWord (p_cw 67) = true := ⟨p_t3 (List.mem_of_getElem? (i := 166) rfl), rfl⟩
theorem p_cw68 : p_cw 68 ∈ lw_tbl ∧ goodWord (p_cw 68) = true := ⟨p_t3 (List.mem_of_getElem? (i := 178) rfl), rfl⟩
theorem p_cw69 : p_cw 69 ∈ lw_tbl ∧ goodWord (p_cw 69) = true := ⟨p_t3 (List.mem_of_getElem? (i := 206) rfl), rfl⟩
theorem p_cw70 : p_cw 70 ∈ lw_tbl ∧ goodWord (p_cw 70) = true := ⟨p_t3 (List.mem_of_getElem? (i := 218) rfl), rfl⟩
theorem p_cw71 : p_cw 71 ∈ lw_tbl ∧ goodWord (p_cw 71) = true := ⟨p_t2 (List.mem_of_getElem? (i := 157) rfl), rfl⟩
theorem p_cw72 : p_cw 72 ∈ lw_tbl ∧ goodWord (p_cw 72) = true := ⟨p_t3 (List.mem_of_getElem? (i := 17) rfl), rfl⟩
theorem p_cw73 : p_cw 73 ∈ lw_tbl ∧ goodWord (p_cw 73) = true := ⟨p_t2 (List.mem_of_getElem? (i := 47) rfl), rfl⟩
theorem p_cw74 : p_cw 74 ∈ lw_tbl ∧ goodWord (p_cw 74) = true := ⟨p_t3 (List.mem_of_getElem? (i := 105) rfl), rfl⟩
theorem p_cw75 : p_cw 75 ∈ lw_tbl ∧ goodWord (p_cw 75) = true := ⟨p_t2 (List.mem_of_getElem? (i := 22) rfl), rfl⟩
theorem p_cw76 : p_cw 76 ∈ lw_tbl ∧ goodWord (p_cw 76) = true := ⟨p_t2 (List.mem_of_getElem? (i := 26) rfl), rfl⟩
theorem p_cw77 : p_cw 77 ∈ lw_tbl ∧ goodWord (p_cw 77) = true := ⟨p_t3 (List.mem_of_getElem? (i := 55) rfl), rfl⟩
theorem p_cw78 : p_cw 78 ∈ lw_tbl ∧ goodWord (p_cw 78) = true := ⟨p_t3 (List.mem_of_getElem? (i := 78) rfl), rfl⟩
theorem p_cw79 : p_cw 79 ∈ lw_tbl ∧ goodWord (p_cw 79) = true := ⟨p_t3 (List.mem_of_getElem? (i := 182) rfl), rfl⟩
theorem p_cw80 : p_cw 80 ∈ lw_tbl ∧ goodWord (p_cw 80) = true := ⟨p_t2 (List.mem_of_getElem? (i := 168) rfl), rfl⟩
theorem p_cw81 : p_cw 81 ∈ lw_tbl ∧ goodWord (p_cw 81) = true := ⟨p_t2 (List.mem_of_getElem? (i := 188) rfl), rfl⟩
theorem p_cw82 : p_cw 82 ∈ lw_tbl ∧ goodWord (p_cw 82) = true := ⟨p_t2 (List.mem_of_getElem? (i := 91) rfl), rfl⟩
theorem p_cw83 : p_cw 83 ∈ lw_tbl ∧ goodWord (p_cw 83) = true := ⟨p_t3 (List.mem_of_getElem? (i := 2) rfl), rfl⟩
theorem p_cw84 : p_cw 84 ∈ lw_tbl ∧ goodWord (p_cw 84) = true := ⟨p_t3 (List.mem_of_getElem? (i := 6) rfl), rfl⟩
theorem p_cw85 : p_cw 85 ∈ lw_tbl ∧ goodWord (p_cw 85) = true := ⟨p_t2 (List.mem_of_getElem? (i := 220) rfl), rfl⟩
theorem p_cw86 : p_cw 86 ∈ lw_tbl ∧ goodWord (p_cw 86) = true := ⟨p_t2 (List.mem_of_getElem? (i := 230) rfl), rfl⟩
theorem p_cw87 : p_cw 87 ∈ lw_tbl ∧ goodWord (p_cw 87) = true := ⟨p_t2 (List.mem_of_getElem? (i := 82) rfl), rfl⟩
theorem p_cw88 : p_cw 88 ∈ lw_tbl ∧ goodWord (p_cw 88) = true := ⟨p_t3 (List.mem_of_getElem? (i := 60) rfl), rfl⟩
theorem p_cw89 : p_cw 89 ∈ lw_tbl ∧ goodWord (p_cw 89) = true := ⟨p_t3 (List.mem_of_getElem? (i := 83) rfl), rfl⟩
theorem p_cw90 : p_cw 90 ∈ lw_tbl ∧ goodWord (p_cw 90) = true := ⟨p_t3 (List.mem_of_getElem? (i := 111) rfl), rfl⟩
theorem p_cw91 : p_cw 91 ∈ lw_tbl ∧ goodWord (p_cw 91) = true := ⟨p_t3 (List.mem_of_getElem? (i := 187) rfl), rfl⟩
theorem p_cw92 : p_cw 92 ∈ lw_tbl ∧ goodWord (p_cw 92) = true := ⟨p_t3 (List.mem_of_getElem? (i := 199) rfl), rfl⟩
theorem p_cw93 : p_cw 93 ∈ lw_tbl ∧ goodWord (p_cw 93) = true := ⟨p_t3 (List.mem_of_getElem? (i := 210) rfl), rfl⟩
theorem p_cw95 : p_cw 95 ∈ lw_tbl ∧ goodWord (p_cw 95) = true := ⟨p_t4 (List.mem_of_getElem? (i := 52) rfl), rfl⟩
theorem p_cw96 : p_cw 96 ∈ lw_tbl ∧ goodWord (p_cw 96) = true := ⟨p_t4 (List.mem_of_getElem? (i := 60) rfl), rfl⟩
theorem p_cw97 : p_cw 97 ∈ lw_tbl ∧ goodWord (p_cw 97) = true := ⟨p_t4 (List.mem_of_getElem? (i := 67) rfl), rfl⟩
theorem p_cw98 : p_cw 98 ∈ lw_tbl ∧ goodWord (p_cw 98) = true := ⟨p_t4 (List.mem_of_getElem? (i := 184) rfl), rfl⟩
theorem p_cw99 : p_cw 99 ∈ lw_tbl ∧ goodWord (p_cw 99) = true := ⟨p_t4 (List.mem_of_getElem? (i := 103) rfl), rfl⟩
theorem p_cw100 : p_cw 100 ∈ lw_tbl ∧ goodWord (p_cw 100) = true := ⟨p_t4 (List.mem_of_getElem? (i := 181) rfl), rfl⟩
theorem p_cw101 : p_cw 101 ∈ lw_tbl ∧ goodWord (p_cw 101) = true := ⟨p_t4 (List.mem_of_getElem? (i := 87) rfl), rfl⟩
theorem p_cw102 : p_cw 102 ∈ lw_tbl ∧ goodWord (p_cw 102) = true := ⟨p_t4 (List.mem_of_getElem? (i := 134) rfl), rfl⟩
theorem p_cw103 : p_cw 103 ∈ lw_tbl ∧ goodWord (p_cw 103) = true := ⟨p_t4 (List.mem_of_getElem? (i := 56) rfl), rfl⟩
theorem p_cw104 : p_cw 104 ∈ lw_tbl ∧ goodWord (p_cw 104) = true := ⟨p_t4 (List.mem_of_getElem? (i := 64) rfl), rfl⟩
theorem p_cw105 : p_cw 105 ∈ lw_tbl ∧ goodWord (p_cw 105) = true := ⟨p_t4 (List.mem_of_getElem? (i := 107) rfl), rfl⟩
theorem p_cw106 : p_cw 106 ∈ lw_tbl ∧ goodWord (p_cw 106) = true := ⟨p_t4 (List.mem_of_getElem? (i := 111) rfl), rfl⟩
theorem p_cw107 : p_cw 107 ∈ lw_tbl ∧ goodWord (p_cw 107) = true := ⟨p_t4 (List.mem_of_getElem? (i := 99) rfl), rfl⟩
theorem p_cw108 : p_cw 108 ∈ lw_tbl ∧ goodWord (p_cw 108) = true := ⟨p_t4 (List.mem_of_getElem? (i := 91) rfl), rfl⟩
theorem p_cw109 : p_cw 109 ∈ lw_tbl ∧ goodWord (p_cw 109) = true := ⟨p_t4 (List.mem_of_getElem? (i := 95) rfl), rfl⟩
theorem p_cw110 : p_cw 110 ∈ lw_tbl ∧ goodWord (p_cw 110) = true := ⟨p_t4 (List.mem_of_getElem? (i := 138) rfl), rfl⟩
theorem p_cw111 : p_cw 111 ∈ lw_tbl ∧ goodWord (p_cw 111) = true := ⟨p_t4 (List.mem_of_getElem? (i := 83) rfl), rfl⟩
theorem p_cw112 : p_cw 112 ∈ lw_tbl ∧ goodWord (p_cw 112) = true := ⟨p_t4 (List.mem_of_getElem? (i := 79) rfl), rfl⟩
theorem p_cw113 : p_cw 113 ∈ lw_tbl ∧ goodWord (p_cw 113) = true := ⟨p_t4 (List.mem_of_getElem? (i := 75) rfl), rfl⟩
theorem p_cw114 : p_cw 114 ∈ lw_tbl ∧ goodWord (p_cw 114) = true := ⟨p_t4 (List.mem_of_getElem? (i := 71) rfl), rfl⟩
theorem p_cw115 : p_cw 115 ∈ lw_tbl ∧ goodWord (p_cw 115) = true := ⟨p_t4 (List.mem_of_getElem? (i := 122) rfl), rfl⟩
theorem p_cw116 : p_cw 116 ∈ lw_tbl ∧ goodWord (p_cw 116) = true := ⟨p_t4 (List.mem_of_getElem? (i := 126) rfl), rfl⟩
theorem p_cw117 : p_cw 117 ∈ lw_tbl ∧ goodWord (p_cw 117) = true := ⟨p_t4 (List.mem_of_getElem? (i := 130) rfl), rfl⟩
theorem p_cw118 : p_cw 118 ∈ lw_tbl ∧ goodWord (p_cw 118) = true := ⟨p_t4 (List.mem_of_getElem? (i := 150) rfl), rfl⟩
theorem p_cw119 : p_cw 119 ∈ lw_tbl ∧ goodWord (p_cw 119) = true := ⟨p_t4 (List.mem_of_getElem? (i := 146) rfl), rfl⟩
theorem p_cw120 : p_cw 120 ∈ lw_tbl ∧ goodWord (p_cw 120) = true := ⟨p_t4 (List.mem_of_getElem? (i := 142) rfl), rfl⟩
theorem p_cw121 : p_cw 121 ∈ lw_tbl ∧ goodWord (p_cw 121) = true := ⟨p_t4 (List.mem_of_getElem? (i := 154) rfl), rfl⟩
theorem p_cw122 : p_cw 122 ∈ lw_tbl ∧ goodWord (p_cw 122) = true := ⟨p_t4 (List.mem_of_getElem? (i := 158) rfl), rfl⟩
theorem p_cw123 : p_cw 123 ∈ lw_tbl ∧ goodWord (p_cw 123) = true := ⟨p_t4 (List.mem_of_getElem? (i := 162) rfl), rfl⟩
theorem p_cw124 : p_cw 124 ∈ lw_tbl ∧ goodWord (p_cw 124) = true := ⟨p_t4 (List.mem_of_getElem? (i := 166) rfl), rfl⟩
theorem p_cw125 : p_cw 125 ∈ lw_tbl ∧ goodWord (p_cw 125) = true := ⟨p_t4 (List.mem_of_getElem? (i := 178) rfl), rfl⟩
theorem p_cw126 : p_cw 126 ∈ lw_tbl ∧ goodWord (p_cw 126) = true := ⟨p_t4 (List.mem_of_getElem? (i := 174) rfl), rfl⟩
theorem p_cw127 : p_cw 127 ∈ lw_tbl ∧ goodWord (p_cw 127) = true := ⟨p_t4 (List.mem_of_getElem? (i := 170) rfl), rfl⟩
theorem p_cw128 : p_cw 128 ∈ lw_tbl ∧ goodWord (p_cw 128) = true := ⟨p_t4 (List.mem_of_getElem? (i := 188) rfl), rfl⟩
theorem p_cw129 : p_cw 129 ∈ lw_tbl ∧ goodWord (p_cw 129) = true := ⟨p_t4 (List.mem_of_getElem? (i := 226) rfl), rfl⟩
theorem p_cw130 : p_cw 130 ∈ lw_tbl ∧ goodWord (p_cw 130) = true := ⟨p_t4 (List.mem_of_getElem? (i := 192) rfl), rfl⟩
theorem p_cw131 : p_cw 131 ∈ lw_tbl ∧ goodWord (p_cw 131) = true := ⟨p_t4 (List.mem_of_getElem? (i := 196) rfl), rfl⟩
theorem p_cw132 : p_cw 132 ∈ lw_tbl ∧ goodWord (p_cw 132) = true := ⟨p_t4 (List.mem_of_getElem? (i := 200) rfl), rfl⟩
theorem p_cw133 : p_cw 133 ∈ lw_tbl ∧ goodWord (p_cw 133) = true := ⟨p_t4 (List.mem_of_getElem? (i := 206) rfl), rfl⟩
theorem p_cw134 : p_cw 134 ∈ lw_tbl ∧ goodWord (p_cw 134) = true := ⟨p_t4 (List.mem_of_getElem? (i := 214) rfl), rfl⟩
theorem p_cw135 : p_cw 135 ∈ lw_tbl ∧ goodWord (p_cw 135) = true := ⟨p_t4 (List.mem_of_getElem? (i := 210) rfl), rfl⟩
theorem p_cw136 : p_cw 136 ∈ lw_tbl ∧ goodWord (p_cw 136) = true := ⟨p_t4 (List.mem_of_getElem? (i := 218) rfl), rfl⟩
theorem p_cw137 : p_cw 137 ∈ lw_tbl ∧ goodWord (p_cw 137) = true := ⟨p_t4 (List.mem_of_getElem? (i := 230) rfl), rfl⟩
theorem p_cw138 : p_cw 138 ∈ lw_tbl ∧ goodWord (p_cw 138) = true := ⟨p_t4 (List.mem_of_getElem? (i := 222) rfl), rfl⟩
theorem p_cw139 : p_cw 139 ∈ lw_tbl ∧ goodWord (p_cw 139) = true := ⟨p_t4 (List.mem_of_getElem? (i := 234) rfl), rfl⟩
theorem p_cw140 : p_cw 140 ∈ lw_tbl ∧ goodWord (p_cw 140) = true := ⟨p_t5 (List.mem_of_getElem? (i := 3) rfl), rfl⟩
theorem p_cw141 : p_cw 141 ∈ lw_tbl ∧ goodWord (p_cw 141) = true := ⟨p_t4 (List.mem_of_getElem? (i := 239) rfl), rfl⟩
theorem p_cw142 : p_cw 142 ∈ lw_tbl ∧ goodWord (p_cw 142) = true := ⟨p_t5 (List.mem_of_getElem? (i := 19) rfl), rfl⟩
theorem p_cw143 : p_cw 143 ∈ lw_tbl ∧ goodWord (p_cw 143) = true := ⟨p_t5 (List.mem_of_getElem? (i := 15) rfl), rfl⟩
theorem p_cw144 : p_cw 144 ∈ lw_tbl ∧ goodWord (p_cw 144) = true := ⟨p_t5 (List.mem_of_getElem? (i := 23) rfl), rfl⟩
theorem p_cw145 : p_cw 145 ∈ lw_tbl ∧ goodWord (p_cw 145) = true := ⟨p_t5 (List.mem_of_getElem? (i := 31) rfl), rfl⟩
theorem p_cw146 : p_cw 146 ∈ lw_tbl ∧ goodWord (p_cw 146) = true := ⟨p_t5 (List.mem_of_getElem? (i := 39) rfl), rfl⟩
theorem p_cw147 : p_cw 147 ∈ lw_tbl ∧ goodWord (p_cw 147) = true := ⟨p_t5 (List.mem_of_getElem? (i := 35) rfl), rfl⟩
theorem p_cw148 : p_cw 148 ∈ lw_tbl ∧ goodWord (p_cw 148) = true := ⟨p_t5 (List.mem_of_getElem? (i := 27) rfl), rfl⟩
theorem p_cw149 : p_cw 149 ∈ lw_tbl ∧ goodWord (p_cw 149) = true := ⟨p_t5 (List.mem_of_getElem? (i := 11) rfl), rfl⟩
theorem p_cw150 : p_cw 150 ∈ lw_tbl ∧ goodWord (p_cw 150) = true := ⟨p_t5 (List.mem_of_getElem? (i := 55) rfl), rfl⟩
theorem p_cw151 : p_cw 151 ∈ lw_tbl ∧ goodWord (p_cw 151) = true := ⟨p_t5 (List.mem_of_getElem? (i := 59) rfl), rfl⟩
theorem p_cw152 : p_cw 152 ∈ lw_tbl ∧ goodWord (p_cw 152) = true := ⟨p_t5 (List.mem_of_getElem? (i := 71) rfl), rfl⟩
theorem p_cw153 : p_cw 153 ∈ lw_tbl ∧ goodWord (p_cw 153) = true := ⟨p_t5 (List.mem_of_getElem? (i := 67) rfl), rfl⟩
theorem p_cw154 : p_cw 154 ∈ lw_tbl ∧ goodWord (p_cw 154) = true := ⟨p_t5 (List.mem_of_getElem? (i := 63) rfl), rfl⟩
theorem p_cw155 : p_cw 155 ∈ lw_tbl ∧ goodWord (p_cw 155) = true := ⟨p_t5 (List.mem_of_getElem? (i := 7) rfl), rfl⟩
theorem p_cw156 : p_cw 156 ∈ lw_tbl ∧ goodWord (p_cw 156) = true := ⟨p_t5 (List.mem_of_getElem? (i := 43) rfl), rfl⟩
theorem p_cw157 : p_cw 157 ∈ lw_tbl ∧ goodWord (p_cw 157) = true := ⟨p_t5 (List.mem_of_getElem? (i := 51) rfl), rfl⟩
theorem p_cw158 : p_cw 158 ∈ lw_tbl ∧ goodWord (p_cw 158) = true := ⟨p_t5 (List.mem_of_getElem? (i := 47) rfl), rfl⟩
theorem p_cw159 : p_cw 159 ∈ lw_tbl ∧ goodWord (p_cw 159) = true := ⟨p_t5 (List.mem_of_getElem? (i := 83) rfl), rfl⟩
theorem p_cw160 : p_cw 160 ∈ lw_tbl ∧ goodWord (p_cw 160) = true := ⟨p_t5 (List.mem_of_getElem? (i := 79) rfl), rfl⟩
theorem p_cw161 : p_cw 161 ∈ lw_tbl ∧ goodWord (p_cw 161) = true := ⟨p_t5 (List.mem_of_getElem? (i := 75) rfl), rfl⟩
theorem p_cw162 : p_cw 162 ∈ lw_tbl ∧ goodWord (p_cw 162) = true := ⟨p_t5 (List.mem_of_getElem? (i := 87) rfl), rfl⟩
theorem p_cw163 : p_cw 163 ∈ lw_tbl ∧ goodWord (p_cw 163) = true := ⟨p_t1 (List.mem_of_getElem? (i := 157) rfl), rfl⟩
theorem p_cw164 : p_cw 164 ∈ lw_tbl ∧ goodWord (p_cw 164) = true := ⟨p_t2 (List.mem_of_getElem? (i := 12) rfl), rfl⟩
theorem p_cw165 : p_cw 165 ∈ lw_tbl ∧ goodWord (p_cw 165) = true := ⟨p_t2 (List.mem_of_getElem? (i := 74) rfl), rfl⟩
theorem p_cw166 : p_cw 166 ∈ lw_tbl ∧ goodWord (p_cw 166) = true := ⟨p_t2 (List.mem_of_getElem? (i := 133) rfl), rfl⟩
theorem p_cw167 : p_cw 167 ∈ lw_tbl ∧ goodWord (p_cw 167) = true := ⟨p_t2 (List.mem_of_getElem? (i := 149) rfl), rfl⟩
theorem p_cw168 : p_cw 168 ∈ lw_tbl ∧ goodWord (p_cw 168) = true := ⟨p_t2 (List.mem_of_getElem? (i := 179) rfl), rfl⟩
theorem p_cw169 : p_cw 169 ∈ lw_tbl ∧ goodWord (p_cw 169) = true := ⟨p_t2 (List.mem_of_getElem? (i := 192) rfl), rfl⟩
theorem p_cw170 : p_cw 170 ∈ lw_tbl ∧ goodWord (p_cw 170) = true := ⟨p_t2 (List.mem_of_getElem? (i := 199) rfl), rfl⟩
theorem p_cw171 : p_cw 171 ∈ lw_tbl ∧ goodWord (p_cw 171) = true := ⟨p_t2 (List.mem_of_getElem? (i := 212) rfl), rfl⟩
theorem p_cw172 : p_cw 172 ∈ lw_tbl ∧ goodWord (p_cw 172) = true := ⟨p_t2 (List.mem_of_getElem? (i := 233) rfl), rfl⟩
theorem p_cw173 : p_cw 173 ∈ lw_tbl ∧ goodWord (p_cw 173) = true := ⟨p_t3 (List.mem_of_getElem? (i := 9) rfl), rfl⟩
theorem p_cw174 : p_cw 174 ∈ lw_tbl ∧ goodWord (p_cw 174) = true := ⟨p_t3 (List.mem_of_getElem? (i := 21) rfl), rfl⟩
theorem p_cw175 : p_cw 175 ∈ lw_tbl ∧ goodWord (p_cw 175) = true := ⟨p_t3 (List.mem_of_getElem? (i := 28) rfl), rfl⟩
theorem p_cw176 : p_cw 176 ∈ lw_tbl ∧ goodWord (p_cw 176) = true := ⟨p_t3 (List.mem_of_getElem? (i := 38) rfl), rfl⟩
theorem p_cw177 : p_cw 177 ∈ lw_tbl ∧ goodWord (p_cw 177) = true := ⟨p_t3 (List.mem_of_getElem? (i := 47) rfl), rfl⟩
theorem p_cw178 : p_cw 178 ∈ lw_tbl ∧ goodWord (p_cw 178) = true := ⟨p_t3 (List.mem_of_getElem? (i := 63) rfl), rfl⟩
theorem p_cw179 : p_cw 179 ∈ lw_tbl ∧ goodWord (p_cw 179) = true := ⟨p_t3 (List.mem_of_getElem? (i := 70) rfl), rfl⟩
theorem p_cw180 : p_cw 180 ∈ lw_tbl ∧ goodWord (p_cw 180) = true := ⟨p_t3 (List.mem_of_getElem? (i := 89) rfl), rfl⟩
theorem p_cw181 : p_cw 181 ∈ lw_tbl ∧ goodWord (p_cw 181) = true := ⟨p_t3 (List.mem_of_getElem? (i := 97) rfl), rfl⟩
theorem p_cw182 : p_cw 182 ∈ lw_tbl ∧ goodWord (p_cw 182) = true := ⟨p_t3 (List.mem_of_getElem? (i := 162) rfl), rfl⟩
theorem p_cw183 : p_cw 183 ∈ lw_tbl ∧ goodWord (p_cw 183) = true := ⟨p_t3 (List.mem_of_getElem? (i := 174) rfl), rfl⟩
theorem p_cw184 : p_cw 184 ∈ lw_tbl ∧ goodWord (p_cw 184) = true := ⟨p_t3 (List.mem_of_getElem? (i := 202) rfl), rfl⟩
theorem p_cw185 : p_cw 185 ∈ lw_tbl ∧ goodWord (p_cw 185) = true := ⟨p_t3 (List.mem_of_getElem? (i := 214) rfl), rfl⟩
theorem p_cwc0 : ∀ m ∈ ([1, 2, 3, 4, 5, 6, 7, 8, 9, 10, 11, 12, 13, 15, 16, 17] : List Nat), p_cw m ∈ lw_tbl ∧ goodWord (p_cw m) = true := List.forall_mem_cons.mpr ⟨p_cw1, List.forall_mem_cons.mpr ⟨p_cw2, List.forall_mem_cons.mpr ⟨p_cw3, List.forall_mem_cons.mpr ⟨p_cw4, List.forall_mem_cons.mpr ⟨p_cw5, List.forall_mem_cons.mpr ⟨p_cw6, List.forall_mem_cons.mpr ⟨p_cw7, List.forall_mem_cons.mpr ⟨p_cw8, List.forall_mem_cons.mpr ⟨p_cw9, List.forall_mem_cons.mpr ⟨p_cw10, List.forall_mem_cons.mpr ⟨p_cw11, List.forall_mem_cons.mpr ⟨p_cw12, List.forall_mem_cons.mpr ⟨p_cw13, List.forall_mem_cons.mpr ⟨p_cw15, List.forall_mem_cons.mpr ⟨p_cw16, List.forall_mem_cons.mpr ⟨p_cw17, fun _ h => absurd h List.not_mem_nil⟩⟩⟩⟩⟩⟩⟩⟩⟩⟩⟩⟩⟩⟩⟩⟩
theorem p_cwc1 : ∀ m ∈ ([18, 19, 20, 21, 22, 24, 25, 26, 27, 28, 30, 31, 32, 33, 34, 35] : List Nat), p_cw m ∈ lw_tbl ∧ goodWord (p_cw m) = true := List.forall_mem_cons.mpr ⟨p_cw18, List.forall_mem_cons.mpr ⟨p_cw19, List.forall_mem_cons.mpr ⟨p_cw20, List.forall_mem_cons.mpr ⟨p_cw21, List.forall_mem_cons.mpr ⟨p_cw22, List.forall_mem_cons.mpr ⟨p_cw24, List.forall_mem_cons.mpr ⟨p_cw25, List.forall_mem_cons.mpr ⟨p_cw26, List.forall_mem_cons.mpr ⟨p_cw27, List.forall_mem_cons.mpr ⟨p_cw28, List.forall_mem_cons.mpr ⟨p_cw30, List.forall_mem_cons.mpr ⟨p_cw31, List.forall_mem_cons.mpr ⟨p_cw32, List.forall_mem_cons.mpr ⟨p_cw33, List.forall_mem_cons.mpr ⟨p_cw34, List.forall_mem_cons.mpr ⟨p_cw35, fun _ h => absurd h List.not_mem_nil⟩⟩⟩⟩⟩⟩⟩⟩⟩⟩⟩⟩⟩⟩⟩⟩
theorem p_cwc2 : ∀ m ∈ ([36, 37, 38, 39, 40, 41, 42, 44, 45, 46, 47, 48, 49, 50, 51, 52] : List Nat), p_cw m ∈ lw_tbl ∧ goodWord (p_cw m) = true := List.forall_mem_cons.mpr ⟨p_cw36, List.forall_mem_cons.mpr ⟨p_cw37, List.forall_mem_cons.mpr ⟨p_cw38, List.forall_mem_cons.mpr ⟨p_cw39, List.forall_mem_cons.mpr ⟨p_cw40, List.forall_mem_cons.mpr ⟨p_cw41, List.forall_mem_cons.mpr ⟨p_cw42, List.forall_mem_cons.mpr ⟨p_cw44, List.forall_mem_cons.mpr ⟨p_cw45, List.forall_mem_cons.mpr ⟨p_cw46, List.forall_mem_cons.mpr ⟨p_cw47, List.forall_mem_cons.mpr ⟨p_cw48, List.forall_mem_cons.mpr ⟨p_cw49, List.forall_mem_cons.mpr ⟨p_cw50, List.forall_mem_cons.mpr ⟨p_cw51, List.forall_mem_cons.mpr ⟨p_cw52, fun _ h => absurd h List.not_mem_nil⟩⟩⟩⟩⟩⟩⟩⟩⟩⟩⟩⟩⟩⟩⟩⟩
theorem p_cwc3 : ∀ m ∈ ([53, 54, 55, 56, 57, 58, 59, 60, 61, 62, 63, 64, 65, 66, 67, 68] : List Nat), p_cw m ∈ lw_tbl ∧ goodWord (p_cw m) = true := List.forall_mem_cons.mpr ⟨p_cw53, List.forall_mem_cons.mpr ⟨p_cw54, List.forall_mem_cons.mpr ⟨p_cw55, List.forall_mem_cons.mpr ⟨p_cw56, List.forall_mem_cons.mpr ⟨p_cw57, List.forall_mem_cons.mpr ⟨p_cw58, List.forall_mem_cons.mpr ⟨p_cw59, List.forall_mem_cons.mpr ⟨p_cw60, List.forall_mem_cons.mpr ⟨p_cw61, List.forall_mem_cons.mpr ⟨p_cw62, List.forall_mem_cons.mpr ⟨p_cw63, List.forall_mem_cons.mpr ⟨p_cw64, List.forall_mem_cons.mpr ⟨p_cw65, List.forall_mem_cons.mpr ⟨p_cw66, List.forall_mem_cons.mpr ⟨p_cw67, List.forall_mem_cons.mpr ⟨p_cw68, fun _ h => absurd h List.not_mem_nil⟩⟩⟩⟩⟩⟩⟩⟩⟩⟩⟩⟩⟩⟩⟩⟩
theorem p_cwc4 : ∀ m ∈ ([69, 70, 71, 72, 73, 74, 75, 76, 77, 78, 79, 80, 81, 82, 83, 84] : List Nat), p_cw m ∈ lw_tbl ∧ goodWord (p_cw m) = true := List.forall_mem_cons.mpr ⟨p_cw69, List.forall_mem_cons.mpr ⟨p_cw70, List.forall_mem_cons.mpr ⟨p_cw71, List.forall_mem_cons.mpr ⟨p_cw72, List.forall_mem_cons.mpr ⟨p_cw73, List.forall_mem_cons.mpr ⟨p_cw74, List.forall_mem_cons.mpr ⟨p_cw75, List.forall_mem_cons.mpr ⟨p_cw76, List.forall_mem_cons.mpr ⟨p_cw77, List.forall_mem_cons.mpr ⟨p_cw78, List.forall_mem_cons.mpr ⟨p_cw79, List.forall_mem_cons.mpr ⟨p_cw80, List.forall_mem_cons.mpr ⟨p_cw81, List.forall_mem_cons.mpr ⟨p_cw82, List.forall_mem_cons.mpr ⟨p_cw83, List.forall_mem_cons.mpr ⟨p_cw84, fun _ h => absurd h List.not_mem_nil⟩⟩⟩⟩⟩⟩⟩⟩⟩⟩⟩⟩⟩⟩⟩⟩
theorem p_cwc5 : ∀ m ∈ ([85, 86, 87, 88, 89, 90, 91, 92, 93, 95, 96, 97, 98, 99, 100, 101] : List Nat), p_cw m ∈ lw_tbl ∧ goodWord (p_cw m) = true := List.forall_mem_cons.mpr ⟨p_cw85, List.forall_mem_cons.mpr ⟨p_cw86, List.forall_mem_cons.mpr ⟨p_cw87, List.forall_mem_cons.mpr ⟨p_cw88, List.forall_mem_cons.mpr ⟨p_cw89, List.forall_mem_cons.mpr ⟨p_cw90, List.forall_mem_cons.mpr ⟨p_cw91, List.forall_mem_cons.mpr ⟨p_cw92, List.forall_mem_cons.mpr ⟨p_cw93, List.forall_mem_cons.mpr ⟨p_cw95, List.forall_mem_cons.mpr ⟨p_cw96, List.forall_mem_cons.mpr ⟨p_cw97, List.forall_mem_cons.mpr ⟨p_cw98, List.forall_mem_cons.mpr ⟨p_cw99, List.forall_mem_cons.mpr ⟨p_cw100, List.forall_mem_cons.mpr ⟨p_cw101, fun _ h => absurd h List.not_mem_nil⟩⟩⟩⟩⟩⟩⟩⟩⟩⟩⟩⟩⟩⟩⟩⟩
theorem p_cwc6 : ∀ m ∈ ([102, 103, 104, 105, 106, 107, 108, 109, 110, 111, 112, 113, 114, 115, 116, 117] : List Nat), p_cw m ∈ lw_tbl ∧ goodWord (p_cw m) = true := List.forall_mem_cons.mpr ⟨p_cw102, List.forall_mem_cons.mpr ⟨p_cw103, List.forall_mem_cons.mpr ⟨p_cw104, List.forall_mem_cons.mpr ⟨p_cw105, List.forall_mem_cons.mpr ⟨p_cw106, List.forall_mem_cons.mpr ⟨p_cw107, List.forall_mem_cons.mpr ⟨p_cw108, List.forall_mem_cons.mpr ⟨p_cw109, List.forall_mem_cons.mpr ⟨p_cw110, List.forall_mem_cons.mpr ⟨p_cw111, List.forall_mem_cons.mpr ⟨p_cw112, List.forall_mem_cons.mpr ⟨p_cw113, List.forall_mem_cons.mpr ⟨p_cw114, List.forall_mem_cons.mpr ⟨p_cw115, List.forall_mem_cons.mpr ⟨p_cw116, List.forall_mem_cons.mpr ⟨p_cw117, fun _ h => absurd h List.not_mem_nil⟩⟩⟩⟩⟩⟩⟩⟩⟩⟩⟩⟩⟩⟩⟩⟩
theorem p_cwc7 : ∀ m ∈ ([118, 119, 120, 121, 122, 123, 124, 125, 126, 127, 128, 129, 130, 131, 132, 133] : List Nat), p_cw m ∈ lw_tbl ∧ goodWord (p_cw m) = true := List.forall_mem_cons.mpr ⟨p_cw118, List.forall_mem_cons.mpr ⟨p_cw119, List.forall_mem_cons.mpr ⟨p_cw120, List.forall_mem_cons.mpr ⟨p_cw121, List.forall_mem_cons.mpr ⟨p_cw122, List.forall_mem_cons.mpr ⟨p_cw123, List.forall_mem_cons.mpr ⟨p_cw124, List.forall_mem_cons.mpr ⟨p_cw125, List.forall_mem_cons.mpr ⟨p_cw126, List.forall_mem_cons.mpr ⟨p_cw127, List.forall_mem_cons.mpr ⟨p_cw128, List.forall_mem_cons.mpr ⟨p_cw129, List.forall_mem_cons.mpr ⟨p_cw130, List.forall_mem_cons.mpr ⟨p_cw131, List.forall_mem_cons.mpr ⟨p_cw132, List.forall_mem_cons.mpr ⟨p_cw133, fun _ h => absurd h List.not_mem_nil⟩⟩⟩⟩⟩⟩⟩⟩⟩⟩⟩⟩⟩⟩⟩⟩
theorem p_cwc8 : ∀ m ∈ ([134, 135, 136, 137, 138, 139, 140, 141, 142, 143, 144, 145, 146, 147, 148, 149] : List Nat), p_cw m ∈ lw_tbl ∧ goodWord (p_cw m) = true := List.forall_mem_cons.mpr ⟨p_cw134, List.forall_mem_cons.mpr ⟨p_cw135, List.forall_mem_cons.mpr ⟨p_cw136, List.forall_mem_cons.mpr ⟨p_cw137, List.forall_mem_cons.mpr ⟨p_cw138, List.forall_mem_cons.mpr ⟨p_cw139, List.forall_mem_cons.mpr ⟨p_cw140, List.forall_mem_cons.mpr ⟨p_cw141, List.forall_mem_cons.mpr ⟨p_cw142, List.forall_mem_cons.mpr ⟨p_cw143, List.forall_mem_cons.mpr ⟨p_cw144, List.forall_mem_cons.mpr ⟨p_cw145, List.forall_mem_cons.mpr ⟨p_cw146, List.forall_mem_cons.mpr ⟨p_cw147, List.forall_mem_cons.mpr ⟨p_cw148, List.forall_mem_cons.mpr ⟨p_cw149, fun _ h => absurd h List.not_mem_nil⟩⟩⟩⟩⟩⟩⟩⟩⟩⟩⟩⟩⟩⟩⟩⟩
theorem p_cwc9 : ∀ m ∈ ([150, 151, 152, 153, 154, 155, 156, 157, 158, 159, 160, 161, 162, 163, 164, 165] : List Nat), p_cw m ∈ lw_tbl ∧ goodWord (p_cw m) = true := List.forall_mem_cons.mpr ⟨p_cw150, List.forall_mem_cons.mpr ⟨p_cw151, List.forall_mem_cons.mpr ⟨p_cw152, List.forall_mem_cons.mpr ⟨p_cw153, List.forall_mem_cons.mpr ⟨p_cw154, List.forall_mem_cons.mpr ⟨p_cw155, List.forall_mem_cons.mpr ⟨p_cw156, List.forall_mem_cons.mpr ⟨p_cw157, List.forall_mem_cons.mpr ⟨p_cw158, List.forall_mem_cons.mpr ⟨p_cw159, List.forall_mem_cons.mpr ⟨p_cw160, List.forall_mem_cons.mpr ⟨p_cw161, List.forall_mem_cons.mpr ⟨p_cw162, List.forall_mem_cons.mpr ⟨p_cw163, List.forall_mem_cons.mpr ⟨p_cw164, List.forall_mem_cons.mpr ⟨p_cw165, fun _ h => absurd h List.not_mem_nil⟩⟩⟩⟩⟩⟩⟩⟩⟩⟩⟩⟩⟩⟩⟩⟩
theorem p_cwc10 : ∀ m ∈ ([166, 167, 168, 169, 170, 171, 172, 173, 174, 175, 176, 177, 178, 179, 180, 181] : List Nat), p_cw m ∈ lw_tbl ∧ goodWord (p_cw m) = true := List.forall_mem_cons.mpr ⟨p_cw166, List.forall_mem_cons.mpr ⟨p_cw167, List.forall_mem_cons.mpr ⟨p_cw168, List.forall_mem_cons.mpr ⟨p_cw169, List.forall_mem_cons.mpr ⟨p_cw170, List.forall_mem_cons.mpr ⟨p_cw171, List.forall_mem_cons.mpr ⟨p_cw172, List.forall_mem_cons.mpr ⟨p_cw173, List.forall_mem_cons.mpr ⟨p_cw174, List.forall_mem_cons.mpr ⟨p_cw175, List.forall_mem_cons.mpr ⟨p_cw176, List.forall_mem_cons.mpr ⟨p_cw177, List.forall_mem_cons.mpr ⟨p_cw178, List.forall_mem_cons.mpr ⟨p_cw179, List.forall_mem_cons.mpr ⟨p_cw180, List.forall_mem_cons.mpr ⟨p_cw181, fun _ h => absurd h List.not_mem_nil⟩⟩⟩⟩⟩⟩⟩⟩⟩⟩⟩⟩⟩⟩⟩⟩
theorem p_cwc11 : ∀ m ∈ ([182, 183, 184, 185] : List Nat), p_cw m ∈ lw_tbl ∧ goodWord (p_cw m) = true := List.forall_mem_cons.mpr ⟨p_cw182, List.forall_mem_cons.mpr ⟨p_cw183, List.forall_mem_cons.mpr ⟨p_cw184, List.forall_mem_cons.mpr ⟨p_cw185, fun _ h => absurd h List.not_mem_nil⟩⟩⟩⟩
theorem p_cw_ok : ∀ m ∈ p_ms, p_cw m ∈ lw_tbl ∧ goodWord (p_cw m) = true := by
  show ∀ m ∈ ([1, 2, 3, 4, 5, 6, 7, 8, 9, 10, 11, 12, 13, 15, 16, 17] : List Nat) ++ (([18, 19, 20, 21, 22, 24, 25, 26, 27, 28, 30, 31, 32, 33, 34, 35] : List Nat) ++ (([36, 37, 38, 39, 40, 41, 42, 44, 45, 46, 47, 48, 49, 50, 51, 52] : List Nat) ++ (([53, 54, 55, 56, 57, 58, 59, 60, 61, 62, 63, 64, 65, 66, 67, 68] : List Nat) ++ (([69, 70, 71, 72, 73, 74, 75, 76, 77, 78, 79, 80, 81, 82, 83, 84] : List Nat) ++ (([85, 86, 87, 88, 89, 90, 91, 92, 93, 95, 96, 97, 98, 99, 100, 101] : List Nat) ++ (([102, 103, 104, 105, 106, 107, 108, 109, 110, 111, 112, 113, 114, 115, 116, 117] : List Nat) ++ (([118, 119, 120, 121, 122, 123, 124, 125, 126, 127, 128, 129, 130, 131, 132, 133] : List Nat) ++ (([134, 135, 136, 137, 138, 139, 140, 141, 142, 143, 144, 145, 146, 147, 148, 149] : List Nat) ++ (([150, 151, 152, 153, 154, 155, 156, 157, 158, 159, 160, 161, 162, 163, 164, 165] : List Nat) ++ (([166, 167, 168, 169, 170, 171, 172, 173, 174, 175, 176, 177, 178, 179, 180, 181] : List Nat) ++ (([182, 183, 184, 185] : List Nat)))))))))))), _
  exact List.forall_mem_append.mpr ⟨p_cwc0, List.forall_mem_append.mpr ⟨p_cwc1, List.forall_mem_append.mpr ⟨p_cwc2, List.forall_mem_append.mpr ⟨p_cwc3, List.forall_mem_append.mpr ⟨p_cwc4, List.forall_mem_append.mpr ⟨p_cwc5, List.forall_mem_append.mpr ⟨p_cwc6, List.forall_mem_append.mpr ⟨p_cwc7, List.forall_mem_append.mpr ⟨p_cwc8, List.forall_mem_append.mpr ⟨p_cwc9, List.forall_mem_append.mpr ⟨p_cwc10, p_cwc11⟩⟩⟩⟩⟩⟩⟩⟩⟩⟩⟩
theorem p_k1 : p_fldT.all (fun q => p_hb (.fieldLink (p_nm q.1.1) q.1.2 (p_TT q.2.1 q.2.2).1 (p_TT q.2.1 q.2.2).2.1 (p_TT q.2.1 q.2.2).2.2.1) && decide (q.2.2 < p_NN q.2.1) && decide (q.2.1 < 6)) = true := by decide +kernel
theorem p_k2 : (List.range 6).all (fun c => ((List.range (p_NN c)).map (u_lay (p_nm c) (p_TT c))).all p_hb) = true := by decide +kernel
theorem p_k3 : p_cIT.all (fun q => p_hb (.constant (p_nm q.1.1) q.1.2 q.2)) = true := by decide +kernel
theorem p_k4 : p_cJT.all (fun q => p_hb (.constantLong (p_nm q.1.1) q.1.2 q.2)) = true := by decide +kernel
def p_nst : Cond := .methodLinkNest "LiftingWorkshop$Code" 49 yX4_digits "LiftingWorkshop"
/-- the j-th list of words: 0 is the private methods, 1.. the tables -/
def p_sub (j : Nat) : List Cond := match j with
  | 0 => k2_sels lw_privs
  | 1 => tables_1_1
  | 2 => tables_1_2
  | 3 => tables_1_3
  | 4 => tables_1_4
  | _ => tables_1_5
def p_hbi (q : Nat × Nat) (w : Cond) : Bool := decide ((p_sub q.1)[q.2]? = some w) && goodWord w
theorem p_hbi_big {q : Nat × Nat} {w : Cond} (h : p_hbi q w = true) : w ∈ p_big := by
  simp only [p_hbi, Bool.and_eq_true, decide_eq_true_eq] at h
  have h1 := List.mem_of_getElem? h.1
  refine List.mem_filter.mpr ⟨?_, h.2⟩
  revert h1
  unfold p_sub
  split <;> intro h1
  · exact List.mem_append_left _ h1
  · exact p_t1 h1
  · exact p_t2 h1
  · exact p_t3 h1
  · exact p_t4 h1
  · exact p_t5 h1

def p_ivi : List (Nat × Nat) := [(3, 116), (3, 117), (0, 0), (3, 132), (3, 140), (3, 152), (3, 192), (3, 122), (3, 121), (3, 130), (3, 123), (3, 126), (3, 136), (3, 144), (3, 148), (2, 130), (2, 114), (2, 122), (2, 106), (2, 110), (2, 115), (2, 123), (2, 87), (2, 225), (1, 234), (1, 138), (2, 163), (2, 97), (1, 238), (2, 2), (2, 209), (1, 126), (1, 230), (2, 6), (2, 19), (2, 44), (2, 64), (2, 68), (2, 79), (2, 139), (2, 143), (2, 154), (2, 159), (2, 165), (2, 101), (1, 154), (2, 185), (1, 134), (1, 146), (2, 205), (2, 217), (2, 239), (3, 3), (3, 14), (2, 23), (2, 93), (3, 52), (3, 57), (3, 75), (3, 80), (2, 221), (3, 102), (3, 108), (3, 156), (3, 168), (3, 179), (3, 184), (3, 196), (3, 207), (3, 188), (3, 106), (2, 169), (2, 173), (2, 88), (2, 189), (2, 92), (2, 102), (2, 228), (2, 83), (3, 84), (3, 112), (3, 211), (4, 182), (4, 65), (4, 57), (4, 101), (4, 104), (4, 108), (4, 96), (4, 84), (4, 88), (4, 92), (4, 80), (4, 76), (4, 72), (4, 131), (4, 135), (4, 147), (4, 143), (4, 179), (4, 175), (4, 171), (4, 211), (4, 223), (4, 227), (5, 0), (5, 16), (5, 36), (5, 20), (5, 28), (5, 32), (5, 12), (5, 24), (5, 68), (5, 64), (5, 8), (5, 52), (5, 56), (5, 60), (5, 48), (5, 76), (5, 80), (1, 159), (2, 15), (2, 75), (2, 134), (2, 150), (2, 180), (2, 193), (2, 200), (2, 213), (2, 234), (3, 10), (3, 22), (3, 29), (3, 39), (3, 48), (3, 64), (3, 71), (3, 90), (3, 98), (3, 163), (3, 175), (3, 203), (3, 215), (1, 155), (4, 53), (4, 49), (2, 10), (4, 61), (2, 72), (4, 68), (1, 122), (4, 119), (2, 131), (4, 123), (2, 147), (4, 127), (2, 177), (4, 139), (1, 130), (4, 151), (2, 190), (4, 155), (1, 142), (4, 159), (2, 197), (4, 163), (2, 210), (4, 167), (2, 231), (4, 185), (3, 7), (4, 189), (3, 19), (4, 193), (3, 26), (4, 197), (3, 36), (4, 203), (3, 45), (4, 207), (3, 61), (4, 215), (3, 68), (4, 219), (3, 87), (4, 231), (1, 150), (4, 236), (3, 95), (5, 4), (3, 160), (5, 40), (3, 172), (5, 44), (3, 200), (5, 72), (3, 212), (5, 84)]
def p_k5b (x : Nat × Nat) (q : (Nat × Nat) × (Nat × Nat × Nat)) : Bool := if q.2.1 = 0 then (match q.2.2.1 with
  | 0 => p_hbi x (.methodLink (p_nm q.1.1) q.1.2 Lib.MathLoose.abs_long.x)
  | 1 => p_hbi x (.methodLink (p_nm q.1.1) q.1.2 Lib.MathLoose.max_long.x)
  | _ => p_hbi x (.methodLink (p_nm q.1.1) q.1.2 Lib.MathLoose.min_long.x)) else decide (q.2.2.1 ∈ p_ms) && (if q.1 = (0, 49) then decide (q.2.2.1 = 86) else p_hbi x (.methodLink (p_nm q.1.1) q.1.2 (p_y q.2.2.1))) && decide ((parseMethodDescriptor (p_y q.2.2.1).desc).map (fun d => d.parameters.length + (if p_virt q.2.2.1 = true then 1 else 0)) = some q.2.2.2)
theorem p_k5 : (p_ivi.zip p_invT).all (fun z => p_k5b z.1 z.2) = true := by decide +kernel
theorem p_k5l : p_invT.length ≤ p_ivi.length := by decide +kernel
def p_k6b (x : (Nat × Nat) × (Nat × Nat) × (Nat × Nat)) (m : Nat) : Bool := p_hbi x.1 (.initialized (p_y m).cls) && (if p_virt m = true then p_hbi x.2.1 (.instanceMethod (p_y m)) && p_hbi x.2.2 (.selects (p_y m).cls (p_y m) (p_y m)) else p_hbi x.2.1 (.static (p_y m))) && decide ((p_y m).cls ≠ "java/lang/invoke/MethodHandle" ∧ (p_y m).cls ≠ "java/lang/invoke/VarHandle") && plainName (p_y m).cls && decide ((p_y m).cls = p_nm (p_own m)) && decide (p_own m < 7)
def p_msi : List ((Nat × Nat) × (Nat × Nat) × (Nat × Nat)) := [((1, 5), (3, 157), (3, 158)), ((1, 5), (3, 169), (3, 170)), ((1, 5), (3, 113), (3, 114)), ((1, 5), (3, 189), (3, 190)), ((1, 5), (3, 194), (0, 33)), ((1, 5), (3, 119), (0, 23)), ((1, 5), (3, 142), (0, 27)), ((1, 5), (3, 154), (0, 30)), ((1, 5), (3, 146), (0, 28)), ((1, 5), (3, 150), (0, 29)), ((1, 5), (3, 128), (0, 24)), ((1, 5), (3, 134), (0, 25)), ((1, 5), (3, 138), (0, 26)), ((1, 3), (2, 140), (2, 141)), ((1, 3), (2, 144), (2, 145)), ((1, 3), (2, 170), (2, 171)), ((1, 3), (2, 103), (2, 104)), ((1, 3), (2, 108), (0, 6)), ((1, 3), (2, 112), (0, 7)), ((1, 3), (2, 117), (0, 8)), ((1, 3), (2, 125), (0, 9)), ((1, 4), (2, 65), (2, 66)), ((1, 4), (2, 69), (2, 70)), ((1, 4), (2, 222), (2, 223)), ((1, 4), (2, 7), (2, 8)), ((1, 4), (2, 84), (2, 85)), ((1, 2), (1, 127), (1, 128)), ((1, 2), (1, 231), (1, 232)), ((1, 2), (1, 135), (1, 136)), ((1, 2), (1, 139), (1, 140)), ((1, 2), (2, 160), (2, 161)), ((1, 2), (2, 174), (2, 175)), ((1, 2), (1, 235), (1, 236)), ((1, 2), (1, 239), (2, 0)), ((1, 2), (2, 3), (2, 4)), ((1, 2), (2, 98), (2, 99)), ((1, 2), (2, 94), (2, 95)), ((1, 2), (2, 206), (2, 207)), ((1, 2), (1, 147), (1, 148)), ((1, 1), (1, 160), (1, 161)), ((1, 1), (2, 16), (2, 17)), ((1, 1), (2, 76), (2, 77)), ((1, 1), (1, 123), (1, 124)), ((1, 1), (2, 135), (2, 136)), ((1, 1), (2, 151), (2, 152)), ((1, 1), (2, 181), (2, 182)), ((1, 1), (1, 131), (1, 132)), ((1, 1), (2, 194), (2, 195)), ((1, 1), (1, 143), (1, 144)), ((1, 1), (2, 201), (2, 202)), ((1, 1), (2, 214), (2, 215)), ((1, 1), (2, 235), (2, 236)), ((1, 1), (3, 11), (3, 12)), ((1, 1), (3, 23), (3, 24)), ((1, 1), (3, 30), (3, 31)), ((1, 1), (3, 40), (3, 41)), ((1, 1), (3, 49), (3, 50)), ((1, 1), (3, 65), (3, 66)), ((1, 1), (3, 72), (3, 73)), ((1, 1), (3, 91), (3, 92)), ((1, 1), (1, 151), (1, 152)), ((1, 1), (3, 99), (3, 100)), ((1, 1), (3, 164), (3, 165)), ((1, 1), (3, 176), (3, 177)), ((1, 1), (3, 204), (3, 205)), ((1, 1), (3, 216), (3, 217)), ((1, 1), (2, 156), (0, 10)), ((1, 1), (3, 16), (0, 16)), ((1, 1), (2, 46), (0, 3)), ((1, 1), (3, 104), (0, 21)), ((1, 1), (2, 21), (0, 1)), ((1, 1), (2, 25), (0, 2)), ((1, 1), (3, 54), (0, 17)), ((1, 1), (3, 77), (0, 19)), ((1, 1), (3, 181), (0, 31)), ((1, 1), (2, 167), (0, 11)), ((1, 1), (2, 187), (0, 12)), ((1, 1), (2, 90), (0, 5)), ((1, 1), (3, 1), (0, 14)), ((1, 1), (3, 5), (0, 15)), ((1, 1), (2, 219), (0, 13)), ((1, 1), (2, 229), (0, 0)), ((1, 1), (2, 81), (0, 4)), ((1, 1), (3, 59), (0, 18)), ((1, 1), (3, 82), (0, 20)), ((1, 1), (3, 110), (0, 22)), ((1, 1), (3, 186), (0, 32)), ((1, 1), (3, 198), (0, 34)), ((1, 1), (3, 209), (0, 35)), ((1, 6), (4, 50), (4, 51)), ((1, 6), (4, 59), (0, 36)), ((1, 6), (4, 66), (0, 0)), ((1, 6), (4, 183), (0, 0)), ((1, 6), (4, 102), (0, 0)), ((1, 6), (4, 180), (0, 0)), ((1, 6), (4, 86), (0, 40)), ((1, 6), (4, 133), (0, 46)), ((1, 6), (4, 54), (4, 55)), ((1, 6), (4, 62), (4, 63)), ((1, 6), (4, 106), (0, 44)), ((1, 6), (4, 110), (0, 45)), ((1, 6), (4, 98), (0, 43)), ((1, 6), (4, 90), (0, 41)), ((1, 6), (4, 94), (0, 42)), ((1, 6), (4, 137), (0, 47)), ((1, 6), (4, 82), (0, 39)), ((1, 6), (4, 78), (0, 38)), ((1, 6), (4, 74), (0, 37)), ((1, 6), (4, 69), (4, 70)), ((1, 6), (4, 120), (4, 121)), ((1, 6), (4, 124), (4, 125)), ((1, 6), (4, 128), (4, 129)), ((1, 6), (4, 149), (0, 49)), ((1, 6), (4, 145), (0, 48)), ((1, 6), (4, 140), (4, 141)), ((1, 6), (4, 152), (4, 153)), ((1, 6), (4, 156), (4, 157)), ((1, 6), (4, 160), (4, 161)), ((1, 6), (4, 164), (4, 165)), ((1, 6), (4, 177), (0, 51)), ((1, 6), (4, 173), (0, 50)), ((1, 6), (4, 168), (4, 169)), ((1, 6), (4, 186), (4, 187)), ((1, 6), (4, 225), (0, 53)), ((1, 6), (4, 190), (4, 191)), ((1, 6), (4, 194), (4, 195)), ((1, 6), (4, 198), (4, 199)), ((1, 6), (4, 204), (4, 205)), ((1, 6), (4, 213), (0, 52)), ((1, 6), (4, 208), (4, 209)), ((1, 6), (4, 216), (4, 217)), ((1, 6), (4, 229), (0, 54)), ((1, 6), (4, 220), (4, 221)), ((1, 6), (4, 232), (4, 233)), ((1, 6), (5, 2), (0, 55)), ((1, 6), (4, 237), (4, 238)), ((1, 6), (5, 18), (0, 58)), ((1, 6), (5, 14), (0, 57)), ((1, 6), (5, 22), (0, 59)), ((1, 6), (5, 30), (0, 61)), ((1, 6), (5, 38), (0, 63)), ((1, 6), (5, 34), (0, 62)), ((1, 6), (5, 26), (0, 60)), ((1, 6), (5, 10), (0, 56)), ((1, 6), (5, 54), (0, 65)), ((1, 6), (5, 58), (0, 66)), ((1, 6), (5, 70), (0, 69)), ((1, 6), (5, 66), (0, 68)), ((1, 6), (5, 62), (0, 67)), ((1, 6), (5, 5), (5, 6)), ((1, 6), (5, 41), (5, 42)), ((1, 6), (5, 50), (0, 64)), ((1, 6), (5, 45), (5, 46)), ((1, 6), (5, 82), (0, 71)), ((1, 6), (5, 78), (0, 70)), ((1, 6), (5, 73), (5, 74)), ((1, 6), (5, 85), (5, 86)), ((1, 0), (1, 156), (0, 0)), ((1, 0), (2, 11), (0, 0)), ((1, 0), (2, 73), (0, 0)), ((1, 0), (2, 132), (0, 0)), ((1, 0), (2, 148), (0, 0)), ((1, 0), (2, 178), (0, 0)), ((1, 0), (2, 191), (0, 0)), ((1, 0), (2, 198), (0, 0)), ((1, 0), (2, 211), (0, 0)), ((1, 0), (2, 232), (0, 0)), ((1, 0), (3, 8), (0, 0)), ((1, 0), (3, 20), (0, 0)), ((1, 0), (3, 27), (0, 0)), ((1, 0), (3, 37), (0, 0)), ((1, 0), (3, 46), (0, 0)), ((1, 0), (3, 62), (0, 0)), ((1, 0), (3, 69), (0, 0)), ((1, 0), (3, 88), (0, 0)), ((1, 0), (3, 96), (0, 0)), ((1, 0), (3, 161), (0, 0)), ((1, 0), (3, 173), (0, 0)), ((1, 0), (3, 201), (0, 0)), ((1, 0), (3, 213), (0, 0))]
theorem p_k6 : (p_msi.zip p_ms).all (fun z => p_k6b z.1 z.2) = true := by decide +kernel
theorem p_k6l : p_ms.length ≤ p_msi.length := by decide +kernel
theorem p_k7 : p_hb (.static Lib.MathLoose.abs_long.x) = true ∧ p_hb (.static Lib.MathLoose.max_long.x) = true ∧ p_hb (.static Lib.MathLoose.min_long.x) = true ∧ p_hb (.initialized "java/lang/Math") = true := by decide +kernel
theorem p_k8_abs_long : Cond.code Lib.MathLoose.abs_long.x Lib.MathLoose.abs_long.code 2 (some .long) ∈ p_big := List.mem_filter.mpr ⟨p_t2 (List.mem_of_getElem? (i := 227) rfl), rfl⟩
theorem p_k8_max_long : Cond.code Lib.MathLoose.max_long.x Lib.MathLoose.max_long.code 4 (some .long) ∈ p_big := List.mem_filter.mpr ⟨p_t3 (List.mem_of_getElem? (i := 125) rfl), rfl⟩
theorem p_k8_min_long : Cond.code Lib.MathLoose.min_long.x Lib.MathLoose.min_long.code 4 (some .long) ∈ p_big := List.mem_filter.mpr ⟨p_t3 (List.mem_of_getElem? (i := 86) rfl), rfl⟩
