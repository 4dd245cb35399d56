/-! ALL CHECKS TOGETHER -/
theorem bo_tl4 : ∀ b, b < 256 → q_Tb 4 (q_bs b) = true → b ∈ ([0, 2, 6, 10, 14] : List Nat) := by
  have key : ((List.range 256).all fun b => !(q_Tb 4 (q_bs b)) || decide (b ∈ ([0, 2, 6, 10, 14] : List Nat))) = true := by decide +kernel
  intro b hb hT
  have h := List.all_eq_true.mp key b (List.mem_range.mpr hb)
  rw [hT] at h
  exact of_decide_eq_true h
theorem bo_gd4_0 : bo_gd 4 0 := by
  refine ⟨by decide, ⟨bo_len4_0, bo_bio4_0, bo_wei4_0, bo_sgl4_0, bo_par4_0, bo_lin4_0⟩, fun b hb hT => ?_⟩
  have h := bo_tl4 b hb hT
  simp only [List.mem_cons, List.not_mem_nil, or_false] at h
  rcases h with rfl | rfl | rfl | rfl | rfl
  · exact ⟨10012, bo_kap4_0_0, bo_trc4_0_0⟩
  · exact ⟨10045, bo_kap4_0_2, bo_trc4_0_2⟩
  · exact ⟨9540, bo_kap4_0_6, bo_trc4_0_6⟩
  · exact ⟨10479, bo_kap4_0_10, bo_trc4_0_10⟩
  · exact ⟨9834, bo_kap4_0_14, bo_trc4_0_14⟩
theorem bo_gd4_1 : bo_gd 4 1 := by
  refine ⟨by decide, ⟨bo_len4_1, bo_bio4_1, bo_wei4_1, bo_sgl4_1, bo_par4_1, bo_lin4_1⟩, fun b hb hT => ?_⟩
  have h := bo_tl4 b hb hT
  simp only [List.mem_cons, List.not_mem_nil, or_false] at h
  rcases h with rfl | rfl | rfl | rfl | rfl
  · exact ⟨10107, bo_kap4_1_0, bo_trc4_1_0⟩
  · exact ⟨9953, bo_kap4_1_2, bo_trc4_1_2⟩
  · exact ⟨10267, bo_kap4_1_6, bo_trc4_1_6⟩
  · exact ⟨9806, bo_kap4_1_10, bo_trc4_1_10⟩
  · exact ⟨10009, bo_kap4_1_14, bo_trc4_1_14⟩
theorem bo_gd4_2 : bo_gd 4 2 := by
  refine ⟨by decide, ⟨bo_len4_2, bo_bio4_2, bo_wei4_2, bo_sgl4_2, bo_par4_2, bo_lin4_2⟩, fun b hb hT => ?_⟩
  have h := bo_tl4 b hb hT
  simp only [List.mem_cons, List.not_mem_nil, or_false] at h
  rcases h with rfl | rfl | rfl | rfl | rfl
  · exact ⟨10072, bo_kap4_2_0, bo_trc4_2_0⟩
  · exact ⟨10094, bo_kap4_2_2, bo_trc4_2_2⟩
  · exact ⟨10162, bo_kap4_2_6, bo_trc4_2_6⟩
  · exact ⟨10014, bo_kap4_2_10, bo_trc4_2_10⟩
  · exact ⟨9996, bo_kap4_2_14, bo_trc4_2_14⟩
theorem bo_gn4 : bo_gn 4 := by
  refine ⟨by omega, fun w hw => ?_, fun w v hw hv hne => ?_⟩
  · have h : w = 0 ∨ w = 1 ∨ w = 2 := by omega
    rcases h with rfl | rfl | rfl
    · exact bo_gd4_0
    · exact bo_gd4_1
    · exact bo_gd4_2
  · have h : (w = 0 ∧ v = 1) ∨ (w = 0 ∧ v = 2) ∨ (w = 1 ∧ v = 0) ∨ (w = 1 ∧ v = 2) ∨ (w = 2 ∧ v = 0) ∨ (w = 2 ∧ v = 1) := by omega
    rcases h with ⟨rfl, rfl⟩ | ⟨rfl, rfl⟩ | ⟨rfl, rfl⟩ | ⟨rfl, rfl⟩ | ⟨rfl, rfl⟩ | ⟨rfl, rfl⟩
    · exact bo_tra4_01
    · exact bo_tra4_02
    · exact bo_tra4_10
    · exact bo_tra4_12
    · exact bo_tra4_20
    · exact bo_tra4_21
theorem bo_tl8 : ∀ b, b < 256 → q_Tb 8 (q_bs b) = true → b ∈ ([0, 2, 6, 10, 14, 22, 30, 38, 46, 54, 62, 74, 78, 94, 110, 126, 138, 142, 158, 174, 190, 202, 206, 222, 238, 254] : List Nat) := by
  have key : ((List.range 256).all fun b => !(q_Tb 8 (q_bs b)) || decide (b ∈ ([0, 2, 6, 10, 14, 22, 30, 38, 46, 54, 62, 74, 78, 94, 110, 126, 138, 142, 158, 174, 190, 202, 206, 222, 238, 254] : List Nat))) = true := by decide +kernel
  intro b hb hT
  have h := List.all_eq_true.mp key b (List.mem_range.mpr hb)
  rw [hT] at h
  exact of_decide_eq_true h
theorem bo_gd8_0 : bo_gd 8 0 := by
  refine ⟨by decide, ⟨bo_len8_0, bo_bio8_0, bo_wei8_0, bo_sgl8_0, bo_par8_0, bo_lin8_0⟩, fun b hb hT => ?_⟩
  have h := bo_tl8 b hb hT
  simp only [List.mem_cons, List.not_mem_nil, or_false] at h
  rcases h with rfl | rfl | rfl | rfl | rfl | rfl | rfl | rfl | rfl | rfl | rfl | rfl | rfl | rfl | rfl | rfl | rfl | rfl | rfl | rfl | rfl | rfl | rfl | rfl | rfl | rfl
  · exact ⟨10046, bo_kap8_0_0, bo_trc8_0_0⟩
  · exact ⟨10569, bo_kap8_0_2, bo_trc8_0_2⟩
  · exact ⟨10521, bo_kap8_0_6, bo_trc8_0_6⟩
  · exact ⟨10769, bo_kap8_0_10, bo_trc8_0_10⟩
  · exact ⟨10775, bo_kap8_0_14, bo_trc8_0_14⟩
  · exact ⟨10130, bo_kap8_0_22, bo_trc8_0_22⟩
  · exact ⟨10391, bo_kap8_0_30, bo_trc8_0_30⟩
  · exact ⟨10390, bo_kap8_0_38, bo_trc8_0_38⟩
  · exact ⟨10690, bo_kap8_0_46, bo_trc8_0_46⟩
  · exact ⟨10000, bo_kap8_0_54, bo_trc8_0_54⟩
  · exact ⟨10309, bo_kap8_0_62, bo_trc8_0_62⟩
  · exact ⟨10608, bo_kap8_0_74, bo_trc8_0_74⟩
  · exact ⟨10568, bo_kap8_0_78, bo_trc8_0_78⟩
  · exact ⟨10232, bo_kap8_0_94, bo_trc8_0_94⟩
  · exact ⟨10478, bo_kap8_0_110, bo_trc8_0_110⟩
  · exact ⟨10145, bo_kap8_0_126, bo_trc8_0_126⟩
  · exact ⟨10593, bo_kap8_0_138, bo_trc8_0_138⟩
  · exact ⟨10632, bo_kap8_0_142, bo_trc8_0_142⟩
  · exact ⟨10222, bo_kap8_0_158, bo_trc8_0_158⟩
  · exact ⟨10543, bo_kap8_0_174, bo_trc8_0_174⟩
  · exact ⟨10131, bo_kap8_0_190, bo_trc8_0_190⟩
  · exact ⟨10417, bo_kap8_0_202, bo_trc8_0_202⟩
  · exact ⟨10408, bo_kap8_0_206, bo_trc8_0_206⟩
  · exact ⟨10045, bo_kap8_0_222, bo_trc8_0_222⟩
  · exact ⟨10309, bo_kap8_0_238, bo_trc8_0_238⟩
  · exact ⟨9943, bo_kap8_0_254, bo_trc8_0_254⟩
theorem bo_gd8_1 : bo_gd 8 1 := by
  refine ⟨by decide, ⟨bo_len8_1, bo_bio8_1, bo_wei8_1, bo_sgl8_1, bo_par8_1, bo_lin8_1⟩, fun b hb hT => ?_⟩
  have h := bo_tl8 b hb hT
  simp only [List.mem_cons, List.not_mem_nil, or_false] at h
  rcases h with rfl | rfl | rfl | rfl | rfl | rfl | rfl | rfl | rfl | rfl | rfl | rfl | rfl | rfl | rfl | rfl | rfl | rfl | rfl | rfl | rfl | rfl | rfl | rfl | rfl | rfl
  · exact ⟨10142, bo_kap8_1_0, bo_trc8_1_0⟩
  · exact ⟨10123, bo_kap8_1_2, bo_trc8_1_2⟩
  · exact ⟨10390, bo_kap8_1_6, bo_trc8_1_6⟩
  · exact ⟨10095, bo_kap8_1_10, bo_trc8_1_10⟩
  · exact ⟨10260, bo_kap8_1_14, bo_trc8_1_14⟩
  · exact ⟨10864, bo_kap8_1_22, bo_trc8_1_22⟩
  · exact ⟨10664, bo_kap8_1_30, bo_trc8_1_30⟩
  · exact ⟨10181, bo_kap8_1_38, bo_trc8_1_38⟩
  · exact ⟨10060, bo_kap8_1_46, bo_trc8_1_46⟩
  · exact ⟨10724, bo_kap8_1_54, bo_trc8_1_54⟩
  · exact ⟨10423, bo_kap8_1_62, bo_trc8_1_62⟩
  · exact ⟨10256, bo_kap8_1_74, bo_trc8_1_74⟩
  · exact ⟨10250, bo_kap8_1_78, bo_trc8_1_78⟩
  · exact ⟨10669, bo_kap8_1_94, bo_trc8_1_94⟩
  · exact ⟨9955, bo_kap8_1_110, bo_trc8_1_110⟩
  · exact ⟨10438, bo_kap8_1_126, bo_trc8_1_126⟩
  · exact ⟨10057, bo_kap8_1_138, bo_trc8_1_138⟩
  · exact ⟨10355, bo_kap8_1_142, bo_trc8_1_142⟩
  · exact ⟨10706, bo_kap8_1_158, bo_trc8_1_158⟩
  · exact ⟨10264, bo_kap8_1_174, bo_trc8_1_174⟩
  · exact ⟨10531, bo_kap8_1_190, bo_trc8_1_190⟩
  · exact ⟨10081, bo_kap8_1_202, bo_trc8_1_202⟩
  · exact ⟨10275, bo_kap8_1_206, bo_trc8_1_206⟩
  · exact ⟨10678, bo_kap8_1_222, bo_trc8_1_222⟩
  · exact ⟨10081, bo_kap8_1_238, bo_trc8_1_238⟩
  · exact ⟨10483, bo_kap8_1_254, bo_trc8_1_254⟩
theorem bo_gd8_2 : bo_gd 8 2 := by
  refine ⟨by decide, ⟨bo_len8_2, bo_bio8_2, bo_wei8_2, bo_sgl8_2, bo_par8_2, bo_lin8_2⟩, fun b hb hT => ?_⟩
  have h := bo_tl8 b hb hT
  simp only [List.mem_cons, List.not_mem_nil, or_false] at h
  rcases h with rfl | rfl | rfl | rfl | rfl | rfl | rfl | rfl | rfl | rfl | rfl | rfl | rfl | rfl | rfl | rfl | rfl | rfl | rfl | rfl | rfl | rfl | rfl | rfl | rfl | rfl
  · exact ⟨9923, bo_kap8_2_0, bo_trc8_2_0⟩
  · exact ⟨10274, bo_kap8_2_2, bo_trc8_2_2⟩
  · exact ⟨10656, bo_kap8_2_6, bo_trc8_2_6⟩
  · exact ⟨10528, bo_kap8_2_10, bo_trc8_2_10⟩
  · exact ⟨10689, bo_kap8_2_14, bo_trc8_2_14⟩
  · exact ⟨10361, bo_kap8_2_22, bo_trc8_2_22⟩
  · exact ⟨10145, bo_kap8_2_30, bo_trc8_2_30⟩
  · exact ⟨10572, bo_kap8_2_38, bo_trc8_2_38⟩
  · exact ⟨10733, bo_kap8_2_46, bo_trc8_2_46⟩
  · exact ⟨10262, bo_kap8_2_54, bo_trc8_2_54⟩
  · exact ⟨10147, bo_kap8_2_62, bo_trc8_2_62⟩
  · exact ⟨10493, bo_kap8_2_74, bo_trc8_2_74⟩
  · exact ⟨10663, bo_kap8_2_78, bo_trc8_2_78⟩
  · exact ⟨10131, bo_kap8_2_94, bo_trc8_2_94⟩
  · exact ⟨10715, bo_kap8_2_110, bo_trc8_2_110⟩
  · exact ⟨10104, bo_kap8_2_126, bo_trc8_2_126⟩
  · exact ⟨10604, bo_kap8_2_138, bo_trc8_2_138⟩
  · exact ⟨10904, bo_kap8_2_142, bo_trc8_2_142⟩
  · exact ⟨10542, bo_kap8_2_158, bo_trc8_2_158⟩
  · exact ⟨10973, bo_kap8_2_174, bo_trc8_2_174⟩
  · exact ⟨10621, bo_kap8_2_190, bo_trc8_2_190⟩
  · exact ⟨10566, bo_kap8_2_202, bo_trc8_2_202⟩
  · exact ⟨10875, bo_kap8_2_206, bo_trc8_2_206⟩
  · exact ⟨10506, bo_kap8_2_222, bo_trc8_2_222⟩
  · exact ⟨10945, bo_kap8_2_238, bo_trc8_2_238⟩
  · exact ⟨10586, bo_kap8_2_254, bo_trc8_2_254⟩
theorem bo_gn8 : bo_gn 8 := by
  refine ⟨by omega, fun w hw => ?_, fun w v hw hv hne => ?_⟩
  · have h : w = 0 ∨ w = 1 ∨ w = 2 := by omega
    rcases h with rfl | rfl | rfl
    · exact bo_gd8_0
    · exact bo_gd8_1
    · exact bo_gd8_2
  · have h : (w = 0 ∧ v = 1) ∨ (w = 0 ∧ v = 2) ∨ (w = 1 ∧ v = 0) ∨ (w = 1 ∧ v = 2) ∨ (w = 2 ∧ v = 0) ∨ (w = 2 ∧ v = 1) := by omega
    rcases h with ⟨rfl, rfl⟩ | ⟨rfl, rfl⟩ | ⟨rfl, rfl⟩ | ⟨rfl, rfl⟩ | ⟨rfl, rfl⟩ | ⟨rfl, rfl⟩
    · exact bo_tra8_01
    · exact bo_tra8_02
    · exact bo_tra8_10
    · exact bo_tra8_12
    · exact bo_tra8_20
    · exact bo_tra8_21
theorem bo_tl16 : ∀ b, b < 256 → q_Tb 16 (q_bs b) = true → b ∈ ([0, 2, 6, 10, 14, 22, 30, 38, 46, 54, 62, 74, 78, 94, 110, 126, 138, 142, 158, 174, 190, 202, 206, 222, 238, 254] : List Nat) := by
  have key : ((List.range 256).all fun b => !(q_Tb 16 (q_bs b)) || decide (b ∈ ([0, 2, 6, 10, 14, 22, 30, 38, 46, 54, 62, 74, 78, 94, 110, 126, 138, 142, 158, 174, 190, 202, 206, 222, 238, 254] : List Nat))) = true := by decide +kernel
  intro b hb hT
  have h := List.all_eq_true.mp key b (List.mem_range.mpr hb)
  rw [hT] at h
  exact of_decide_eq_true h
theorem bo_gd16_0 : bo_gd 16 0 := by
  refine ⟨by decide, ⟨bo_len16_0, bo_bio16_0, bo_wei16_0, bo_sgl16_0, bo_par16_0, bo_lin16_0⟩, fun b hb hT => ?_⟩
  have h := bo_tl16 b hb hT
  simp only [List.mem_cons, List.not_mem_nil, or_false] at h
  rcases h with rfl | rfl | rfl | rfl | rfl | rfl | rfl | rfl | rfl | rfl | rfl | rfl | rfl | rfl | rfl | rfl | rfl | rfl | rfl | rfl | rfl | rfl | rfl | rfl | rfl | rfl
  · exact ⟨10096, bo_kap16_0_0, bo_trc16_0_0⟩
  · exact ⟨10338, bo_kap16_0_2, bo_trc16_0_2⟩
  · exact ⟨10948, bo_kap16_0_6, bo_trc16_0_6⟩
  · exact ⟨10354, bo_kap16_0_10, bo_trc16_0_10⟩
  · exact ⟨11027, bo_kap16_0_14, bo_trc16_0_14⟩
  · exact ⟨10633, bo_kap16_0_22, bo_trc16_0_22⟩
  · exact ⟨10675, bo_kap16_0_30, bo_trc16_0_30⟩
  · exact ⟨10708, bo_kap16_0_38, bo_trc16_0_38⟩
  · exact ⟨10766, bo_kap16_0_46, bo_trc16_0_46⟩
  · exact ⟨10557, bo_kap16_0_54, bo_trc16_0_54⟩
  · exact ⟨10550, bo_kap16_0_62, bo_trc16_0_62⟩
  · exact ⟨10298, bo_kap16_0_74, bo_trc16_0_74⟩
  · exact ⟨10917, bo_kap16_0_78, bo_trc16_0_78⟩
  · exact ⟨10632, bo_kap16_0_94, bo_trc16_0_94⟩
  · exact ⟨10673, bo_kap16_0_110, bo_trc16_0_110⟩
  · exact ⟨10572, bo_kap16_0_126, bo_trc16_0_126⟩
  · exact ⟨10277, bo_kap16_0_138, bo_trc16_0_138⟩
  · exact ⟨10957, bo_kap16_0_142, bo_trc16_0_142⟩
  · exact ⟨10615, bo_kap16_0_158, bo_trc16_0_158⟩
  · exact ⟨10708, bo_kap16_0_174, bo_trc16_0_174⟩
  · exact ⟨10542, bo_kap16_0_190, bo_trc16_0_190⟩
  · exact ⟨10246, bo_kap16_0_202, bo_trc16_0_202⟩
  · exact ⟨10860, bo_kap16_0_206, bo_trc16_0_206⟩
  · exact ⟨10618, bo_kap16_0_222, bo_trc16_0_222⟩
  · exact ⟨10647, bo_kap16_0_238, bo_trc16_0_238⟩
  · exact ⟨10588, bo_kap16_0_254, bo_trc16_0_254⟩
theorem bo_gd16_1 : bo_gd 16 1 := by
  refine ⟨by decide, ⟨bo_len16_1, bo_bio16_1, bo_wei16_1, bo_sgl16_1, bo_par16_1, bo_lin16_1⟩, fun b hb hT => ?_⟩
  have h := bo_tl16 b hb hT
  simp only [List.mem_cons, List.not_mem_nil, or_false] at h
  rcases h with rfl | rfl | rfl | rfl | rfl | rfl | rfl | rfl | rfl | rfl | rfl | rfl | rfl | rfl | rfl | rfl | rfl | rfl | rfl | rfl | rfl | rfl | rfl | rfl | rfl | rfl
  · exact ⟨10039, bo_kap16_1_0, bo_trc16_1_0⟩
  · exact ⟨10626, bo_kap16_1_2, bo_trc16_1_2⟩
  · exact ⟨10657, bo_kap16_1_6, bo_trc16_1_6⟩
  · exact ⟨10891, bo_kap16_1_10, bo_trc16_1_10⟩
  · exact ⟨10995, bo_kap16_1_14, bo_trc16_1_14⟩
  · exact ⟨11207, bo_kap16_1_22, bo_trc16_1_22⟩
  · exact ⟨11323, bo_kap16_1_30, bo_trc16_1_30⟩
  · exact ⟨10701, bo_kap16_1_38, bo_trc16_1_38⟩
  · exact ⟨10984, bo_kap16_1_46, bo_trc16_1_46⟩
  · exact ⟨11201, bo_kap16_1_54, bo_trc16_1_54⟩
  · exact ⟨11284, bo_kap16_1_62, bo_trc16_1_62⟩
  · exact ⟨11033, bo_kap16_1_74, bo_trc16_1_74⟩
  · exact ⟨11013, bo_kap16_1_78, bo_trc16_1_78⟩
  · exact ⟨11289, bo_kap16_1_94, bo_trc16_1_94⟩
  · exact ⟨11113, bo_kap16_1_110, bo_trc16_1_110⟩
  · exact ⟨11224, bo_kap16_1_126, bo_trc16_1_126⟩
  · exact ⟨10337, bo_kap16_1_138, bo_trc16_1_138⟩
  · exact ⟨10584, bo_kap16_1_142, bo_trc16_1_142⟩
  · exact ⟨10857, bo_kap16_1_158, bo_trc16_1_158⟩
  · exact ⟨10754, bo_kap16_1_174, bo_trc16_1_174⟩
  · exact ⟨10885, bo_kap16_1_190, bo_trc16_1_190⟩
  · exact ⟨10632, bo_kap16_1_202, bo_trc16_1_202⟩
  · exact ⟨10691, bo_kap16_1_206, bo_trc16_1_206⟩
  · exact ⟨10871, bo_kap16_1_222, bo_trc16_1_222⟩
  · exact ⟨10994, bo_kap16_1_238, bo_trc16_1_238⟩
  · exact ⟨10928, bo_kap16_1_254, bo_trc16_1_254⟩
theorem bo_gd16_2 : bo_gd 16 2 := by
  refine ⟨by decide, ⟨bo_len16_2, bo_bio16_2, bo_wei16_2, bo_sgl16_2, bo_par16_2, bo_lin16_2⟩, fun b hb hT => ?_⟩
  have h := bo_tl16 b hb hT
  simp only [List.mem_cons, List.not_mem_nil, or_false] at h
  rcases h with rfl | rfl | rfl | rfl | rfl | rfl | rfl | rfl | rfl | rfl | rfl | rfl | rfl | rfl | rfl | rfl | rfl | rfl | rfl | rfl | rfl | rfl | rfl | rfl | rfl | rfl
  · exact ⟨9676, bo_kap16_2_0, bo_trc16_2_0⟩
  · exact ⟨10062, bo_kap16_2_2, bo_trc16_2_2⟩
  · exact ⟨10395, bo_kap16_2_6, bo_trc16_2_6⟩
  · exact ⟨10104, bo_kap16_2_10, bo_trc16_2_10⟩
  · exact ⟨10464, bo_kap16_2_14, bo_trc16_2_14⟩
  · exact ⟨11086, bo_kap16_2_22, bo_trc16_2_22⟩
  · exact ⟨10937, bo_kap16_2_30, bo_trc16_2_30⟩
  · exact ⟨10622, bo_kap16_2_38, bo_trc16_2_38⟩
  · exact ⟨10501, bo_kap16_2_46, bo_trc16_2_46⟩
  · exact ⟨10821, bo_kap16_2_54, bo_trc16_2_54⟩
  · exact ⟨10744, bo_kap16_2_62, bo_trc16_2_62⟩
  · exact ⟨10467, bo_kap16_2_74, bo_trc16_2_74⟩
  · exact ⟨10882, bo_kap16_2_78, bo_trc16_2_78⟩
  · exact ⟨11078, bo_kap16_2_94, bo_trc16_2_94⟩
  · exact ⟨10911, bo_kap16_2_110, bo_trc16_2_110⟩
  · exact ⟨10997, bo_kap16_2_126, bo_trc16_2_126⟩
  · exact ⟨10318, bo_kap16_2_138, bo_trc16_2_138⟩
  · exact ⟨10844, bo_kap16_2_142, bo_trc16_2_142⟩
  · exact ⟨11236, bo_kap16_2_158, bo_trc16_2_158⟩
  · exact ⟨10795, bo_kap16_2_174, bo_trc16_2_174⟩
  · exact ⟨11038, bo_kap16_2_190, bo_trc16_2_190⟩
  · exact ⟨10808, bo_kap16_2_202, bo_trc16_2_202⟩
  · exact ⟨11243, bo_kap16_2_206, bo_trc16_2_206⟩
  · exact ⟨11464, bo_kap16_2_222, bo_trc16_2_222⟩
  · exact ⟨11236, bo_kap16_2_238, bo_trc16_2_238⟩
  · exact ⟨11371, bo_kap16_2_254, bo_trc16_2_254⟩
theorem bo_gn16 : bo_gn 16 := by
  refine ⟨by omega, fun w hw => ?_, fun w v hw hv hne => ?_⟩
  · have h : w = 0 ∨ w = 1 ∨ w = 2 := by omega
    rcases h with rfl | rfl | rfl
    · exact bo_gd16_0
    · exact bo_gd16_1
    · exact bo_gd16_2
  · have h : (w = 0 ∧ v = 1) ∨ (w = 0 ∧ v = 2) ∨ (w = 1 ∧ v = 0) ∨ (w = 1 ∧ v = 2) ∨ (w = 2 ∧ v = 0) ∨ (w = 2 ∧ v = 1) := by omega
    rcases h with ⟨rfl, rfl⟩ | ⟨rfl, rfl⟩ | ⟨rfl, rfl⟩ | ⟨rfl, rfl⟩ | ⟨rfl, rfl⟩ | ⟨rfl, rfl⟩
    · exact bo_tra16_01
    · exact bo_tra16_02
    · exact bo_tra16_10
    · exact bo_tra16_12
    · exact bo_tra16_20
    · exact bo_tra16_21
theorem bo_tl32 : ∀ b, b < 256 → q_Tb 32 (q_bs b) = true → b ∈ ([0, 2, 6, 10, 14, 22, 30, 38, 46, 54, 62, 74, 78, 94, 110, 126, 138, 142, 158, 174, 190, 202, 206, 222, 238, 254] : List Nat) := by
  have key : ((List.range 256).all fun b => !(q_Tb 32 (q_bs b)) || decide (b ∈ ([0, 2, 6, 10, 14, 22, 30, 38, 46, 54, 62, 74, 78, 94, 110, 126, 138, 142, 158, 174, 190, 202, 206, 222, 238, 254] : List Nat))) = true := by decide +kernel
  intro b hb hT
  have h := List.all_eq_true.mp key b (List.mem_range.mpr hb)
  rw [hT] at h
  exact of_decide_eq_true h
theorem bo_gd32_0 : bo_gd 32 0 := by
  refine ⟨by decide, ⟨bo_len32_0, bo_bio32_0, bo_wei32_0, bo_sgl32_0, bo_par32_0, bo_lin32_0⟩, fun b hb hT => ?_⟩
  have h := bo_tl32 b hb hT
  simp only [List.mem_cons, List.not_mem_nil, or_false] at h
  rcases h with rfl | rfl | rfl | rfl | rfl | rfl | rfl | rfl | rfl | rfl | rfl | rfl | rfl | rfl | rfl | rfl | rfl | rfl | rfl | rfl | rfl | rfl | rfl | rfl | rfl | rfl
  · exact ⟨9983, bo_kap32_0_0, bo_trc32_0_0⟩
  · exact ⟨10346, bo_kap32_0_2, bo_trc32_0_2⟩
  · exact ⟨10880, bo_kap32_0_6, bo_trc32_0_6⟩
  · exact ⟨10334, bo_kap32_0_10, bo_trc32_0_10⟩
  · exact ⟨10948, bo_kap32_0_14, bo_trc32_0_14⟩
  · exact ⟨10622, bo_kap32_0_22, bo_trc32_0_22⟩
  · exact ⟨10640, bo_kap32_0_30, bo_trc32_0_30⟩
  · exact ⟨10624, bo_kap32_0_38, bo_trc32_0_38⟩
  · exact ⟨10687, bo_kap32_0_46, bo_trc32_0_46⟩
  · exact ⟨10512, bo_kap32_0_54, bo_trc32_0_54⟩
  · exact ⟨10491, bo_kap32_0_62, bo_trc32_0_62⟩
  · exact ⟨10251, bo_kap32_0_74, bo_trc32_0_74⟩
  · exact ⟨10802, bo_kap32_0_78, bo_trc32_0_78⟩
  · exact ⟨10547, bo_kap32_0_94, bo_trc32_0_94⟩
  · exact ⟨10543, bo_kap32_0_110, bo_trc32_0_110⟩
  · exact ⟨10466, bo_kap32_0_126, bo_trc32_0_126⟩
  · exact ⟨10275, bo_kap32_0_138, bo_trc32_0_138⟩
  · exact ⟨10878, bo_kap32_0_142, bo_trc32_0_142⟩
  · exact ⟨10586, bo_kap32_0_158, bo_trc32_0_158⟩
  · exact ⟨10633, bo_kap32_0_174, bo_trc32_0_174⟩
  · exact ⟨10491, bo_kap32_0_190, bo_trc32_0_190⟩
  · exact ⟨10211, bo_kap32_0_202, bo_trc32_0_202⟩
  · exact ⟨10742, bo_kap32_0_206, bo_trc32_0_206⟩
  · exact ⟨10543, bo_kap32_0_222, bo_trc32_0_222⟩
  · exact ⟨10547, bo_kap32_0_238, bo_trc32_0_238⟩
  · exact ⟨10489, bo_kap32_0_254, bo_trc32_0_254⟩
theorem bo_gd32_1 : bo_gd 32 1 := by
  refine ⟨by decide, ⟨bo_len32_1, bo_bio32_1, bo_wei32_1, bo_sgl32_1, bo_par32_1, bo_lin32_1⟩, fun b hb hT => ?_⟩
  have h := bo_tl32 b hb hT
  simp only [List.mem_cons, List.not_mem_nil, or_false] at h
  rcases h with rfl | rfl | rfl | rfl | rfl | rfl | rfl | rfl | rfl | rfl | rfl | rfl | rfl | rfl | rfl | rfl | rfl | rfl | rfl | rfl | rfl | rfl | rfl | rfl | rfl | rfl
  · exact ⟨9972, bo_kap32_1_0, bo_trc32_1_0⟩
  · exact ⟨10587, bo_kap32_1_2, bo_trc32_1_2⟩
  · exact ⟨10542, bo_kap32_1_6, bo_trc32_1_6⟩
  · exact ⟨10940, bo_kap32_1_10, bo_trc32_1_10⟩
  · exact ⟨10918, bo_kap32_1_14, bo_trc32_1_14⟩
  · exact ⟨11184, bo_kap32_1_22, bo_trc32_1_22⟩
  · exact ⟨11331, bo_kap32_1_30, bo_trc32_1_30⟩
  · exact ⟨10680, bo_kap32_1_38, bo_trc32_1_38⟩
  · exact ⟨10957, bo_kap32_1_46, bo_trc32_1_46⟩
  · exact ⟨11176, bo_kap32_1_54, bo_trc32_1_54⟩
  · exact ⟨11297, bo_kap32_1_62, bo_trc32_1_62⟩
  · exact ⟨10923, bo_kap32_1_74, bo_trc32_1_74⟩
  · exact ⟨10902, bo_kap32_1_78, bo_trc32_1_78⟩
  · exact ⟨11297, bo_kap32_1_94, bo_trc32_1_94⟩
  · exact ⟨11038, bo_kap32_1_110, bo_trc32_1_110⟩
  · exact ⟨11226, bo_kap32_1_126, bo_trc32_1_126⟩
  · exact ⟨10436, bo_kap32_1_138, bo_trc32_1_138⟩
  · exact ⟨10546, bo_kap32_1_142, bo_trc32_1_142⟩
  · exact ⟨10876, bo_kap32_1_158, bo_trc32_1_158⟩
  · exact ⟨10734, bo_kap32_1_174, bo_trc32_1_174⟩
  · exact ⟨10828, bo_kap32_1_190, bo_trc32_1_190⟩
  · exact ⟨10486, bo_kap32_1_202, bo_trc32_1_202⟩
  · exact ⟨10500, bo_kap32_1_206, bo_trc32_1_206⟩
  · exact ⟨10890, bo_kap32_1_222, bo_trc32_1_222⟩
  · exact ⟨10983, bo_kap32_1_238, bo_trc32_1_238⟩
  · exact ⟨10888, bo_kap32_1_254, bo_trc32_1_254⟩
theorem bo_gd32_2 : bo_gd 32 2 := by
  refine ⟨by decide, ⟨bo_len32_2, bo_bio32_2, bo_wei32_2, bo_sgl32_2, bo_par32_2, bo_lin32_2⟩, fun b hb hT => ?_⟩
  have h := bo_tl32 b hb hT
  simp only [List.mem_cons, List.not_mem_nil, or_false] at h
  rcases h with rfl | rfl | rfl | rfl | rfl | rfl | rfl | rfl | rfl | rfl | rfl | rfl | rfl | rfl | rfl | rfl | rfl | rfl | rfl | rfl | rfl | rfl | rfl | rfl | rfl | rfl
  · exact ⟨9673, bo_kap32_2_0, bo_trc32_2_0⟩
  · exact ⟨10085, bo_kap32_2_2, bo_trc32_2_2⟩
  · exact ⟨10346, bo_kap32_2_6, bo_trc32_2_6⟩
  · exact ⟨10102, bo_kap32_2_10, bo_trc32_2_10⟩
  · exact ⟨10159, bo_kap32_2_14, bo_trc32_2_14⟩
  · exact ⟨11027, bo_kap32_2_22, bo_trc32_2_22⟩
  · exact ⟨10953, bo_kap32_2_30, bo_trc32_2_30⟩
  · exact ⟨10537, bo_kap32_2_38, bo_trc32_2_38⟩
  · exact ⟨10413, bo_kap32_2_46, bo_trc32_2_46⟩
  · exact ⟨10935, bo_kap32_2_54, bo_trc32_2_54⟩
  · exact ⟨10839, bo_kap32_2_62, bo_trc32_2_62⟩
  · exact ⟨10169, bo_kap32_2_74, bo_trc32_2_74⟩
  · exact ⟨10244, bo_kap32_2_78, bo_trc32_2_78⟩
  · exact ⟨10914, bo_kap32_2_94, bo_trc32_2_94⟩
  · exact ⟨10568, bo_kap32_2_110, bo_trc32_2_110⟩
  · exact ⟨10836, bo_kap32_2_126, bo_trc32_2_126⟩
  · exact ⟨10098, bo_kap32_2_138, bo_trc32_2_138⟩
  · exact ⟨10202, bo_kap32_2_142, bo_trc32_2_142⟩
  · exact ⟨10899, bo_kap32_2_158, bo_trc32_2_158⟩
  · exact ⟨10465, bo_kap32_2_174, bo_trc32_2_174⟩
  · exact ⟨10821, bo_kap32_2_190, bo_trc32_2_190⟩
  · exact ⟨10129, bo_kap32_2_202, bo_trc32_2_202⟩
  · exact ⟨10303, bo_kap32_2_206, bo_trc32_2_206⟩
  · exact ⟨10852, bo_kap32_2_222, bo_trc32_2_222⟩
  · exact ⟨10629, bo_kap32_2_238, bo_trc32_2_238⟩
  · exact ⟨10826, bo_kap32_2_254, bo_trc32_2_254⟩
theorem bo_gn32 : bo_gn 32 := by
  refine ⟨by omega, fun w hw => ?_, fun w v hw hv hne => ?_⟩
  · have h : w = 0 ∨ w = 1 ∨ w = 2 := by omega
    rcases h with rfl | rfl | rfl
    · exact bo_gd32_0
    · exact bo_gd32_1
    · exact bo_gd32_2
  · have h : (w = 0 ∧ v = 1) ∨ (w = 0 ∧ v = 2) ∨ (w = 1 ∧ v = 0) ∨ (w = 1 ∧ v = 2) ∨ (w = 2 ∧ v = 0) ∨ (w = 2 ∧ v = 1) := by omega
    rcases h with ⟨rfl, rfl⟩ | ⟨rfl, rfl⟩ | ⟨rfl, rfl⟩ | ⟨rfl, rfl⟩ | ⟨rfl, rfl⟩ | ⟨rfl, rfl⟩
    · exact bo_tra32_01
    · exact bo_tra32_02
    · exact bo_tra32_10
    · exact bo_tra32_12
    · exact bo_tra32_20
    · exact bo_tra32_21
theorem bo_hall : ∀ m, (m = 4 ∨ m = 8 ∨ m = 16 ∨ m = 32) → bo_gn m := by
  intro m hm
  rcases hm with rfl | rfl | rfl | rfl
  · exact bo_gn4
  · exact bo_gn8
  · exact bo_gn16
  · exact bo_gn32
