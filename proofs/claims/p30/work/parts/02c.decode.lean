def p_ln (i : Instr) : Nat := match i with
  | .iload _ | .lload _ | .aload _ | .istore _ | .lstore _ | .astore _ | .bipush _ | .ldc _ | .newarray _ => 2
  | .sipush _ | .ldc2_w _ | .iinc _ _ | .goto _ | .if_icmp _ _ | .ifCond _ _ | .getfield _ | .putfield _ | .invokevirtual _ | .invokespecial _ | .invokestatic _ | .new _ => 3
  | .tableswitch _ _ _ _ => 121
  | _ => 1
theorem p_d0 : ∀ q ∈ p_c0, decode cX0_init q.1 = .ok (q.2, p_ln q.2) := by decide +kernel
theorem p_d1 : ∀ q ∈ p_c1, decode cX0_init q.1 = .ok (q.2, p_ln q.2) := by decide +kernel
theorem p_d2 : ∀ q ∈ p_c2, decode cX0_init q.1 = .ok (q.2, p_ln q.2) := by decide +kernel
theorem p_d3 : ∀ q ∈ p_c3, decode cX0_init q.1 = .ok (q.2, p_ln q.2) := by decide +kernel
theorem p_d4 : ∀ q ∈ p_c4, decode cX0_init q.1 = .ok (q.2, p_ln q.2) := by decide +kernel
theorem p_d5 : ∀ q ∈ p_c5, decode cX0_init q.1 = .ok (q.2, p_ln q.2) := by decide +kernel
theorem p_d6 : ∀ q ∈ p_c6, decode cX0_init q.1 = .ok (q.2, p_ln q.2) := by decide +kernel
theorem p_d7 : ∀ q ∈ p_c7, decode cX0_init q.1 = .ok (q.2, p_ln q.2) := by decide +kernel
theorem p_d8 : ∀ q ∈ p_c8, decode cX0_init q.1 = .ok (q.2, p_ln q.2) := by decide +kernel
theorem p_d9 : ∀ q ∈ p_c9, decode cX0_init q.1 = .ok (q.2, p_ln q.2) := by decide +kernel
theorem p_d10 : ∀ q ∈ p_c10, decode cX0_init q.1 = .ok (q.2, p_ln q.2) := by decide +kernel
theorem p_d11 : ∀ q ∈ p_c11, decode cX0_init q.1 = .ok (q.2, p_ln q.2) := by decide +kernel
theorem p_d12 : ∀ q ∈ p_c12, decode cX0_init q.1 = .ok (q.2, p_ln q.2) := by decide +kernel
theorem p_d13 : ∀ q ∈ p_c13, decode cX0_init q.1 = .ok (q.2, p_ln q.2) := by decide +kernel
theorem p_d14 : ∀ q ∈ p_c14, decode cX1_init q.1 = .ok (q.2, p_ln q.2) := by decide +kernel
theorem p_d15 : ∀ q ∈ p_c15, decode cX1_wavelet q.1 = .ok (q.2, p_ln q.2) := by decide +kernel
theorem p_d16 : ∀ q ∈ p_c16, decode cX1_use q.1 = .ok (q.2, p_ln q.2) := by decide +kernel
theorem p_d17 : ∀ q ∈ p_c17, decode cX1_divide q.1 = .ok (q.2, p_ln q.2) := by decide +kernel
theorem p_d18 : ∀ q ∈ p_c18, decode cX1_unite q.1 = .ok (q.2, p_ln q.2) := by decide +kernel
theorem p_d19 : ∀ q ∈ p_c19, decode cX1_steps q.1 = .ok (q.2, p_ln q.2) := by decide +kernel
theorem p_d20 : ∀ q ∈ p_c20, decode cX1_lift q.1 = .ok (q.2, p_ln q.2) := by decide +kernel
theorem p_d21 : ∀ q ∈ p_c21, decode cX1_oddChange q.1 = .ok (q.2, p_ln q.2) := by decide +kernel
theorem p_d22 : ∀ q ∈ p_c22, decode cX1_evenChange q.1 = .ok (q.2, p_ln q.2) := by decide +kernel
theorem p_d23 : ∀ q ∈ p_c23, decode cX2_init q.1 = .ok (q.2, p_ln q.2) := by decide +kernel
theorem p_d24 : ∀ q ∈ p_c24, decode cX2_get q.1 = .ok (q.2, p_ln q.2) := by decide +kernel
theorem p_d25 : ∀ q ∈ p_c25, decode cX2_set q.1 = .ok (q.2, p_ln q.2) := by decide +kernel
theorem p_d26 : ∀ q ∈ p_c26, decode cX2_magnitude q.1 = .ok (q.2, p_ln q.2) := by decide +kernel
theorem p_d27 : ∀ q ∈ p_c27, decode cX2_clear q.1 = .ok (q.2, p_ln q.2) := by decide +kernel
theorem p_d28 : ∀ q ∈ p_c28, decode cX2_copy q.1 = .ok (q.2, p_ln q.2) := by decide +kernel
theorem p_d29 : ∀ q ∈ p_c29, decode cX3_init q.1 = .ok (q.2, p_ln q.2) := by decide +kernel
theorem p_d30 : ∀ q ∈ p_c30, decode cX3_width q.1 = .ok (q.2, p_ln q.2) := by decide +kernel
theorem p_d31 : ∀ q ∈ p_c31, decode cX3_plant q.1 = .ok (q.2, p_ln q.2) := by decide +kernel
theorem p_d32 : ∀ q ∈ p_c32, decode cX3_exists q.1 = .ok (q.2, p_ln q.2) := by decide +kernel
theorem p_d33 : ∀ q ∈ p_c33, decode cX3_hasChildren q.1 = .ok (q.2, p_ln q.2) := by decide +kernel
theorem p_d34 : ∀ q ∈ p_c34, decode cX3_canBeSplit q.1 = .ok (q.2, p_ln q.2) := by decide +kernel
theorem p_d35 : ∀ q ∈ p_c35, decode cX3_giveChildren q.1 = .ok (q.2, p_ln q.2) := by decide +kernel
theorem p_d36 : ∀ q ∈ p_c36, decode cX3_takeChildren q.1 = .ok (q.2, p_ln q.2) := by decide +kernel
theorem p_d37 : ∀ q ∈ p_c37, decode cX3_isWithin q.1 = .ok (q.2, p_ln q.2) := by decide +kernel
theorem p_d38 : ∀ q ∈ p_c38, decode cX3_levelOf q.1 = .ok (q.2, p_ln q.2) := by decide +kernel
theorem p_d39 : ∀ q ∈ p_c39, decode cX3_widthOf q.1 = .ok (q.2, p_ln q.2) := by decide +kernel
theorem p_d40 : ∀ q ∈ p_c40, decode cX3_startOf q.1 = .ok (q.2, p_ln q.2) := by decide +kernel
theorem p_d41 : ∀ q ∈ p_c41, decode cX3_leafOver q.1 = .ok (q.2, p_ln q.2) := by decide +kernel
theorem p_d42 : ∀ q ∈ p_c42, decode cX3_leafCount q.1 = .ok (q.2, p_ln q.2) := by decide +kernel
theorem p_d43 : ∀ q ∈ p_c43, decode cX4_init q.1 = .ok (q.2, p_ln q.2) := by decide +kernel
theorem p_d44 : ∀ q ∈ p_c44, decode cX4_begin q.1 = .ok (q.2, p_ln q.2) := by decide +kernel
theorem p_d45 : ∀ q ∈ p_c45, decode cX4_setSample q.1 = .ok (q.2, p_ln q.2) := by decide +kernel
theorem p_d46 : ∀ q ∈ p_c46, decode cX4_sample q.1 = .ok (q.2, p_ln q.2) := by decide +kernel
theorem p_d47 : ∀ q ∈ p_c47, decode cX4_length q.1 = .ok (q.2, p_ln q.2) := by decide +kernel
theorem p_d48 : ∀ q ∈ p_c48, decode cX4_setWavelet q.1 = .ok (q.2, p_ln q.2) := by decide +kernel
theorem p_d49 : ∀ q ∈ p_c49, decode cX4_split q.1 = .ok (q.2, p_ln q.2) := by decide +kernel
theorem p_d50 : ∀ q ∈ p_c50, decode cX4_join q.1 = .ok (q.2, p_ln q.2) := by decide +kernel
theorem p_d51 : ∀ q ∈ p_c51, decode cX4_isNode q.1 = .ok (q.2, p_ln q.2) := by decide +kernel
theorem p_d52 : ∀ q ∈ p_c52, decode cX4_isLeaf q.1 = .ok (q.2, p_ln q.2) := by decide +kernel
theorem p_d53 : ∀ q ∈ p_c53, decode cX4_leaves q.1 = .ok (q.2, p_ln q.2) := by decide +kernel
theorem p_d54 : ∀ q ∈ p_c54, decode cX4_leafAt q.1 = .ok (q.2, p_ln q.2) := by decide +kernel
theorem p_d55 : ∀ q ∈ p_c55, decode cX4_costOf q.1 = .ok (q.2, p_ln q.2) := by decide +kernel
theorem p_d56 : ∀ q ∈ p_c56, decode cX4_chooseBasis q.1 = .ok (q.2, p_ln q.2) := by decide +kernel
theorem p_d57 : ∀ q ∈ p_c57, decode cX4_sizeOf q.1 = .ok (q.2, p_ln q.2) := by decide +kernel
theorem p_d58 : ∀ q ∈ p_c58, decode cX4_number q.1 = .ok (q.2, p_ln q.2) := by decide +kernel
theorem p_d59 : ∀ q ∈ p_c59, decode cX0_init q.1 = .ok (q.2, p_ln q.2) := by decide +kernel
theorem p_d60 : ∀ q ∈ p_c60, decode cX4_filtered q.1 = .ok (q.2, p_ln q.2) := by decide +kernel
theorem p_d61 : ∀ q ∈ p_c61, decode cX0_init q.1 = .ok (q.2, p_ln q.2) := by decide +kernel
theorem p_d62 : ∀ q ∈ p_c62, decode cX0_init q.1 = .ok (q.2, p_ln q.2) := by decide +kernel
theorem p_d63 : ∀ q ∈ p_c63, decode cX0_init q.1 = .ok (q.2, p_ln q.2) := by decide +kernel
theorem p_d64 : ∀ q ∈ p_c64, decode cX0_init q.1 = .ok (q.2, p_ln q.2) := by decide +kernel
theorem p_d65 : ∀ q ∈ p_c65, decode cX0_init q.1 = .ok (q.2, p_ln q.2) := by decide +kernel
theorem p_d66 : ∀ q ∈ p_c66, decode cX0_init q.1 = .ok (q.2, p_ln q.2) := by decide +kernel
theorem p_d67 : ∀ q ∈ p_c67, decode cX0_init q.1 = .ok (q.2, p_ln q.2) := by decide +kernel
theorem p_d68 : ∀ q ∈ p_c68, decode cX0_init q.1 = .ok (q.2, p_ln q.2) := by decide +kernel
theorem p_d69 : ∀ q ∈ p_c69, decode cX0_init q.1 = .ok (q.2, p_ln q.2) := by decide +kernel
theorem p_d70 : ∀ q ∈ p_c70, decode cX0_init q.1 = .ok (q.2, p_ln q.2) := by decide +kernel
theorem p_d71 : ∀ q ∈ p_c71, decode cX4_requireNode q.1 = .ok (q.2, p_ln q.2) := by decide +kernel
theorem p_d72 : ∀ q ∈ p_c72, decode cX4_requireLeaf q.1 = .ok (q.2, p_ln q.2) := by decide +kernel
theorem p_d73 : ∀ q ∈ p_c73, decode cX4_requireUnsplitRoot q.1 = .ok (q.2, p_ln q.2) := by decide +kernel
theorem p_d74 : ∀ q ∈ p_c74, decode cX0_init q.1 = .ok (q.2, p_ln q.2) := by decide +kernel
theorem p_d75 : ∀ q ∈ p_c75, decode cX4_requirePlaceInSignal q.1 = .ok (q.2, p_ln q.2) := by decide +kernel
theorem p_d76 : ∀ q ∈ p_c76, decode cX4_requirePlaceBelow q.1 = .ok (q.2, p_ln q.2) := by decide +kernel
theorem p_d77 : ∀ q ∈ p_c77, decode cX0_init q.1 = .ok (q.2, p_ln q.2) := by decide +kernel
theorem p_d78 : ∀ q ∈ p_c78, decode cX0_init q.1 = .ok (q.2, p_ln q.2) := by decide +kernel
theorem p_d79 : ∀ q ∈ p_c79, decode cX0_init q.1 = .ok (q.2, p_ln q.2) := by decide +kernel
theorem p_d80 : ∀ q ∈ p_c80, decode cX4_splitLeaf q.1 = .ok (q.2, p_ln q.2) := by decide +kernel
theorem p_d81 : ∀ q ∈ p_c81, decode cX4_joinBranch q.1 = .ok (q.2, p_ln q.2) := by decide +kernel
theorem p_d82 : ∀ q ∈ p_c82, decode cX4_uniteBranch q.1 = .ok (q.2, p_ln q.2) := by decide +kernel
theorem p_d83 : ∀ q ∈ p_c83, decode cX4_splitNodesBelow q.1 = .ok (q.2, p_ln q.2) := by decide +kernel
theorem p_d84 : ∀ q ∈ p_c84, decode cX4_joinWhereLeafCostsNoMore q.1 = .ok (q.2, p_ln q.2) := by decide +kernel
theorem p_d85 : ∀ q ∈ p_c85, decode cX4_branchCost q.1 = .ok (q.2, p_ln q.2) := by decide +kernel
theorem p_d86 : ∀ q ∈ p_c86, decode cX4_digits q.1 = .ok (q.2, p_ln q.2) := by decide +kernel
theorem p_d87 : ∀ q ∈ p_c87, decode cX4_gatherSamples q.1 = .ok (q.2, p_ln q.2) := by decide +kernel
theorem p_d88 : ∀ q ∈ p_c88, decode cX0_init q.1 = .ok (q.2, p_ln q.2) := by decide +kernel
theorem p_d89 : ∀ q ∈ p_c89, decode cX0_init q.1 = .ok (q.2, p_ln q.2) := by decide +kernel
theorem p_d90 : ∀ q ∈ p_c90, decode cX0_init q.1 = .ok (q.2, p_ln q.2) := by decide +kernel
theorem p_d91 : ∀ q ∈ p_c91, decode cX0_init q.1 = .ok (q.2, p_ln q.2) := by decide +kernel
theorem p_d92 : ∀ q ∈ p_c92, decode cX0_init q.1 = .ok (q.2, p_ln q.2) := by decide +kernel
theorem p_d93 : ∀ q ∈ p_c93, decode cX0_init q.1 = .ok (q.2, p_ln q.2) := by decide +kernel
theorem p_d94 : ∀ q ∈ p_c94, decode cL_cell q.1 = .ok (q.2, p_ln q.2) := by decide +kernel
theorem p_d95 : ∀ q ∈ p_c95, decode cL_at q.1 = .ok (q.2, p_ln q.2) := by decide +kernel
theorem p_d96 : ∀ q ∈ p_c96, decode cL_back q.1 = .ok (q.2, p_ln q.2) := by decide +kernel
theorem p_d97 : ∀ q ∈ p_c97, decode cL_covers q.1 = .ok (q.2, p_ln q.2) := by decide +kernel
theorem p_d98 : ∀ q ∈ p_c98, decode cL_splits q.1 = .ok (q.2, p_ln q.2) := by decide +kernel
theorem p_d99_0 : ∀ q ∈ p_c99_0, decode cL_signal q.1 = .ok (q.2, p_ln q.2) := by decide +kernel
theorem p_d99_1 : ∀ q ∈ p_c99_1, decode cL_signal q.1 = .ok (q.2, p_ln q.2) := by decide +kernel
theorem p_d99_2 : ∀ q ∈ p_c99_2, decode cL_signal q.1 = .ok (q.2, p_ln q.2) := by decide +kernel
theorem p_d99 : ∀ q ∈ p_c99, decode cL_signal q.1 = .ok (q.2, p_ln q.2) := List.forall_mem_append.mpr ⟨p_d99_0, List.forall_mem_append.mpr ⟨p_d99_1, p_d99_2⟩⟩
theorem p_d100 : ∀ q ∈ p_c100, decode cL_law q.1 = .ok (q.2, p_ln q.2) := by decide +kernel
def p_dp (q : List (Nat × Instr) × ByteArray) : Prop := ∀ x ∈ q.1, decode q.2 x.1 = .ok (x.2, p_ln x.2)
theorem p_dc0 : ∀ q ∈ ([(p_c0, cX0_init), (p_c1, cX0_init), (p_c2, cX0_init), (p_c3, cX0_init), (p_c4, cX0_init), (p_c5, cX0_init), (p_c6, cX0_init), (p_c7, cX0_init), (p_c8, cX0_init), (p_c9, cX0_init), (p_c10, cX0_init), (p_c11, cX0_init), (p_c12, cX0_init), (p_c13, cX0_init), (p_c14, cX1_init), (p_c15, cX1_wavelet)] : List (List (Nat × Instr) × ByteArray)), p_dp q := List.forall_mem_cons.mpr ⟨p_d0, List.forall_mem_cons.mpr ⟨p_d1, List.forall_mem_cons.mpr ⟨p_d2, List.forall_mem_cons.mpr ⟨p_d3, List.forall_mem_cons.mpr ⟨p_d4, List.forall_mem_cons.mpr ⟨p_d5, List.forall_mem_cons.mpr ⟨p_d6, List.forall_mem_cons.mpr ⟨p_d7, List.forall_mem_cons.mpr ⟨p_d8, List.forall_mem_cons.mpr ⟨p_d9, List.forall_mem_cons.mpr ⟨p_d10, List.forall_mem_cons.mpr ⟨p_d11, List.forall_mem_cons.mpr ⟨p_d12, List.forall_mem_cons.mpr ⟨p_d13, List.forall_mem_cons.mpr ⟨p_d14, List.forall_mem_cons.mpr ⟨p_d15, fun _ h => absurd h List.not_mem_nil⟩⟩⟩⟩⟩⟩⟩⟩⟩⟩⟩⟩⟩⟩⟩⟩
theorem p_dc1 : ∀ q ∈ ([(p_c16, cX1_use), (p_c17, cX1_divide), (p_c18, cX1_unite), (p_c19, cX1_steps), (p_c20, cX1_lift), (p_c21, cX1_oddChange), (p_c22, cX1_evenChange), (p_c23, cX2_init), (p_c24, cX2_get), (p_c25, cX2_set), (p_c26, cX2_magnitude), (p_c27, cX2_clear), (p_c28, cX2_copy), (p_c29, cX3_init), (p_c30, cX3_width), (p_c31, cX3_plant)] : List (List (Nat × Instr) × ByteArray)), p_dp q := List.forall_mem_cons.mpr ⟨p_d16, List.forall_mem_cons.mpr ⟨p_d17, List.forall_mem_cons.mpr ⟨p_d18, List.forall_mem_cons.mpr ⟨p_d19, List.forall_mem_cons.mpr ⟨p_d20, List.forall_mem_cons.mpr ⟨p_d21, List.forall_mem_cons.mpr ⟨p_d22, List.forall_mem_cons.mpr ⟨p_d23, List.forall_mem_cons.mpr ⟨p_d24, List.forall_mem_cons.mpr ⟨p_d25, List.forall_mem_cons.mpr ⟨p_d26, List.forall_mem_cons.mpr ⟨p_d27, List.forall_mem_cons.mpr ⟨p_d28, List.forall_mem_cons.mpr ⟨p_d29, List.forall_mem_cons.mpr ⟨p_d30, List.forall_mem_cons.mpr ⟨p_d31, fun _ h => absurd h List.not_mem_nil⟩⟩⟩⟩⟩⟩⟩⟩⟩⟩⟩⟩⟩⟩⟩⟩
theorem p_dc2 : ∀ q ∈ ([(p_c32, cX3_exists), (p_c33, cX3_hasChildren), (p_c34, cX3_canBeSplit), (p_c35, cX3_giveChildren), (p_c36, cX3_takeChildren), (p_c37, cX3_isWithin), (p_c38, cX3_levelOf), (p_c39, cX3_widthOf), (p_c40, cX3_startOf), (p_c41, cX3_leafOver), (p_c42, cX3_leafCount), (p_c43, cX4_init), (p_c44, cX4_begin), (p_c45, cX4_setSample), (p_c46, cX4_sample), (p_c47, cX4_length)] : List (List (Nat × Instr) × ByteArray)), p_dp q := List.forall_mem_cons.mpr ⟨p_d32, List.forall_mem_cons.mpr ⟨p_d33, List.forall_mem_cons.mpr ⟨p_d34, List.forall_mem_cons.mpr ⟨p_d35, List.forall_mem_cons.mpr ⟨p_d36, List.forall_mem_cons.mpr ⟨p_d37, List.forall_mem_cons.mpr ⟨p_d38, List.forall_mem_cons.mpr ⟨p_d39, List.forall_mem_cons.mpr ⟨p_d40, List.forall_mem_cons.mpr ⟨p_d41, List.forall_mem_cons.mpr ⟨p_d42, List.forall_mem_cons.mpr ⟨p_d43, List.forall_mem_cons.mpr ⟨p_d44, List.forall_mem_cons.mpr ⟨p_d45, List.forall_mem_cons.mpr ⟨p_d46, List.forall_mem_cons.mpr ⟨p_d47, fun _ h => absurd h List.not_mem_nil⟩⟩⟩⟩⟩⟩⟩⟩⟩⟩⟩⟩⟩⟩⟩⟩
theorem p_dc3 : ∀ q ∈ ([(p_c48, cX4_setWavelet), (p_c49, cX4_split), (p_c50, cX4_join), (p_c51, cX4_isNode), (p_c52, cX4_isLeaf), (p_c53, cX4_leaves), (p_c54, cX4_leafAt), (p_c55, cX4_costOf), (p_c56, cX4_chooseBasis), (p_c57, cX4_sizeOf), (p_c58, cX4_number), (p_c59, cX0_init), (p_c60, cX4_filtered), (p_c61, cX0_init), (p_c62, cX0_init), (p_c63, cX0_init)] : List (List (Nat × Instr) × ByteArray)), p_dp q := List.forall_mem_cons.mpr ⟨p_d48, List.forall_mem_cons.mpr ⟨p_d49, List.forall_mem_cons.mpr ⟨p_d50, List.forall_mem_cons.mpr ⟨p_d51, List.forall_mem_cons.mpr ⟨p_d52, List.forall_mem_cons.mpr ⟨p_d53, List.forall_mem_cons.mpr ⟨p_d54, List.forall_mem_cons.mpr ⟨p_d55, List.forall_mem_cons.mpr ⟨p_d56, List.forall_mem_cons.mpr ⟨p_d57, List.forall_mem_cons.mpr ⟨p_d58, List.forall_mem_cons.mpr ⟨p_d59, List.forall_mem_cons.mpr ⟨p_d60, List.forall_mem_cons.mpr ⟨p_d61, List.forall_mem_cons.mpr ⟨p_d62, List.forall_mem_cons.mpr ⟨p_d63, fun _ h => absurd h List.not_mem_nil⟩⟩⟩⟩⟩⟩⟩⟩⟩⟩⟩⟩⟩⟩⟩⟩
theorem p_dc4 : ∀ q ∈ ([(p_c64, cX0_init), (p_c65, cX0_init), (p_c66, cX0_init), (p_c67, cX0_init), (p_c68, cX0_init), (p_c69, cX0_init), (p_c70, cX0_init), (p_c71, cX4_requireNode), (p_c72, cX4_requireLeaf), (p_c73, cX4_requireUnsplitRoot), (p_c74, cX0_init), (p_c75, cX4_requirePlaceInSignal), (p_c76, cX4_requirePlaceBelow), (p_c77, cX0_init), (p_c78, cX0_init), (p_c79, cX0_init)] : List (List (Nat × Instr) × ByteArray)), p_dp q := List.forall_mem_cons.mpr ⟨p_d64, List.forall_mem_cons.mpr ⟨p_d65, List.forall_mem_cons.mpr ⟨p_d66, List.forall_mem_cons.mpr ⟨p_d67, List.forall_mem_cons.mpr ⟨p_d68, List.forall_mem_cons.mpr ⟨p_d69, List.forall_mem_cons.mpr ⟨p_d70, List.forall_mem_cons.mpr ⟨p_d71, List.forall_mem_cons.mpr ⟨p_d72, List.forall_mem_cons.mpr ⟨p_d73, List.forall_mem_cons.mpr ⟨p_d74, List.forall_mem_cons.mpr ⟨p_d75, List.forall_mem_cons.mpr ⟨p_d76, List.forall_mem_cons.mpr ⟨p_d77, List.forall_mem_cons.mpr ⟨p_d78, List.forall_mem_cons.mpr ⟨p_d79, fun _ h => absurd h List.not_mem_nil⟩⟩⟩⟩⟩⟩⟩⟩⟩⟩⟩⟩⟩⟩⟩⟩
theorem p_dc5 : ∀ q ∈ ([(p_c80, cX4_splitLeaf), (p_c81, cX4_joinBranch), (p_c82, cX4_uniteBranch), (p_c83, cX4_splitNodesBelow), (p_c84, cX4_joinWhereLeafCostsNoMore), (p_c85, cX4_branchCost), (p_c86, cX4_digits), (p_c87, cX4_gatherSamples), (p_c88, cX0_init), (p_c89, cX0_init), (p_c90, cX0_init), (p_c91, cX0_init), (p_c92, cX0_init), (p_c93, cX0_init), (p_c94, cL_cell), (p_c95, cL_at)] : List (List (Nat × Instr) × ByteArray)), p_dp q := List.forall_mem_cons.mpr ⟨p_d80, List.forall_mem_cons.mpr ⟨p_d81, List.forall_mem_cons.mpr ⟨p_d82, List.forall_mem_cons.mpr ⟨p_d83, List.forall_mem_cons.mpr ⟨p_d84, List.forall_mem_cons.mpr ⟨p_d85, List.forall_mem_cons.mpr ⟨p_d86, List.forall_mem_cons.mpr ⟨p_d87, List.forall_mem_cons.mpr ⟨p_d88, List.forall_mem_cons.mpr ⟨p_d89, List.forall_mem_cons.mpr ⟨p_d90, List.forall_mem_cons.mpr ⟨p_d91, List.forall_mem_cons.mpr ⟨p_d92, List.forall_mem_cons.mpr ⟨p_d93, List.forall_mem_cons.mpr ⟨p_d94, List.forall_mem_cons.mpr ⟨p_d95, fun _ h => absurd h List.not_mem_nil⟩⟩⟩⟩⟩⟩⟩⟩⟩⟩⟩⟩⟩⟩⟩⟩
theorem p_dc6 : ∀ q ∈ ([(p_c96, cL_back), (p_c97, cL_covers), (p_c98, cL_splits), (p_c99, cL_signal), (p_c100, cL_law)] : List (List (Nat × Instr) × ByteArray)), p_dp q := List.forall_mem_cons.mpr ⟨p_d96, List.forall_mem_cons.mpr ⟨p_d97, List.forall_mem_cons.mpr ⟨p_d98, List.forall_mem_cons.mpr ⟨p_d99, List.forall_mem_cons.mpr ⟨p_d100, fun _ h => absurd h List.not_mem_nil⟩⟩⟩⟩⟩
theorem p_dall : ∀ q ∈ p_codes.zip p_bT, p_dp q := by
  show ∀ q ∈ ([(p_c0, cX0_init), (p_c1, cX0_init), (p_c2, cX0_init), (p_c3, cX0_init), (p_c4, cX0_init), (p_c5, cX0_init), (p_c6, cX0_init), (p_c7, cX0_init), (p_c8, cX0_init), (p_c9, cX0_init), (p_c10, cX0_init), (p_c11, cX0_init), (p_c12, cX0_init), (p_c13, cX0_init), (p_c14, cX1_init), (p_c15, cX1_wavelet)] : List (List (Nat × Instr) × ByteArray)) ++ (([(p_c16, cX1_use), (p_c17, cX1_divide), (p_c18, cX1_unite), (p_c19, cX1_steps), (p_c20, cX1_lift), (p_c21, cX1_oddChange), (p_c22, cX1_evenChange), (p_c23, cX2_init), (p_c24, cX2_get), (p_c25, cX2_set), (p_c26, cX2_magnitude), (p_c27, cX2_clear), (p_c28, cX2_copy), (p_c29, cX3_init), (p_c30, cX3_width), (p_c31, cX3_plant)] : List (List (Nat × Instr) × ByteArray)) ++ (([(p_c32, cX3_exists), (p_c33, cX3_hasChildren), (p_c34, cX3_canBeSplit), (p_c35, cX3_giveChildren), (p_c36, cX3_takeChildren), (p_c37, cX3_isWithin), (p_c38, cX3_levelOf), (p_c39, cX3_widthOf), (p_c40, cX3_startOf), (p_c41, cX3_leafOver), (p_c42, cX3_leafCount), (p_c43, cX4_init), (p_c44, cX4_begin), (p_c45, cX4_setSample), (p_c46, cX4_sample), (p_c47, cX4_length)] : List (List (Nat × Instr) × ByteArray)) ++ (([(p_c48, cX4_setWavelet), (p_c49, cX4_split), (p_c50, cX4_join), (p_c51, cX4_isNode), (p_c52, cX4_isLeaf), (p_c53, cX4_leaves), (p_c54, cX4_leafAt), (p_c55, cX4_costOf), (p_c56, cX4_chooseBasis), (p_c57, cX4_sizeOf), (p_c58, cX4_number), (p_c59, cX0_init), (p_c60, cX4_filtered), (p_c61, cX0_init), (p_c62, cX0_init), (p_c63, cX0_init)] : List (List (Nat × Instr) × ByteArray)) ++ (([(p_c64, cX0_init), (p_c65, cX0_init), (p_c66, cX0_init), (p_c67, cX0_init), (p_c68, cX0_init), (p_c69, cX0_init), (p_c70, cX0_init), (p_c71, cX4_requireNode), (p_c72, cX4_requireLeaf), (p_c73, cX4_requireUnsplitRoot), (p_c74, cX0_init), (p_c75, cX4_requirePlaceInSignal), (p_c76, cX4_requirePlaceBelow), (p_c77, cX0_init), (p_c78, cX0_init), (p_c79, cX0_init)] : List (List (Nat × Instr) × ByteArray)) ++ (([(p_c80, cX4_splitLeaf), (p_c81, cX4_joinBranch), (p_c82, cX4_uniteBranch), (p_c83, cX4_splitNodesBelow), (p_c84, cX4_joinWhereLeafCostsNoMore), (p_c85, cX4_branchCost), (p_c86, cX4_digits), (p_c87, cX4_gatherSamples), (p_c88, cX0_init), (p_c89, cX0_init), (p_c90, cX0_init), (p_c91, cX0_init), (p_c92, cX0_init), (p_c93, cX0_init), (p_c94, cL_cell), (p_c95, cL_at)] : List (List (Nat × Instr) × ByteArray)) ++ (([(p_c96, cL_back), (p_c97, cL_covers), (p_c98, cL_splits), (p_c99, cL_signal), (p_c100, cL_law)] : List (List (Nat × Instr) × ByteArray)))))))), _
  exact List.forall_mem_append.mpr ⟨p_dc0, List.forall_mem_append.mpr ⟨p_dc1, List.forall_mem_append.mpr ⟨p_dc2, List.forall_mem_append.mpr ⟨p_dc3, List.forall_mem_append.mpr ⟨p_dc4, List.forall_mem_append.mpr ⟨p_dc5, p_dc6⟩⟩⟩⟩⟩⟩
theorem p_dec {mi pc : Nat} {ins : Instr} (h : p_at mi pc = some ins) : decode (p_b mi) pc = .ok (ins, p_ln ins) := by
  unfold p_at at h
  cases hc : p_codes[mi]? with
  | none => rw [hc] at h; simp at h
  | some l =>
    rw [hc] at h
    have h1 : (pc, ins) ∈ l := p_lk h
    have hlen : p_bT.length = p_codes.length := rfl
    have hm : mi < p_bT.length := by rw [hlen]; exact (List.getElem?_eq_some_iff.mp hc).1
    have hb : p_bT[mi]? = some (p_b mi) := by
      rw [List.getElem?_eq_getElem hm]
      simp only [p_b, List.getD_eq_getElem?_getD, List.getElem?_eq_getElem hm, Option.getD_some]
    have h2 : (l, p_b mi) ∈ p_codes.zip p_bT := by
      apply List.mem_of_getElem? (i := mi)
      rw [List.getElem?_zip_eq_some]
      exact ⟨hc, hb⟩
    have h3 : p_dp (l, p_b mi) := p_dall (l, p_b mi) h2
    exact h3 (pc, ins) h1
def p_xn (E : Nat) : String := match E with
  | 0 => "java/lang/IllegalArgumentException"
  | 1 => "java/lang/IllegalStateException"
  | _ => "java/lang/IndexOutOfBoundsException"
def p_xs : List String := ["java/lang/RuntimeException", "java/lang/Exception"]
def p_txT : List (Nat × String) := [(52, "a signal has 4, 8, 16 or 32 samples"), (71, "a sample is -1000 to 1000"), (87, "a wavelet is 0 to 2"), (104, "the node cannot be split"), (117, "the node has no children"), (130, "there are not so many leaves"), (139, "levels are 1 to 3"), (161, "the wavelet 2 has no filter here"), (215, "there is no such node"), (217, "the node is no leaf"), (219, "the root has children"), (227, "there is no such place")]
def p_xB : List Cond := ((List.range 3).flatMap fun E => [(54, 0), (106, 1), (132, 2)].flatMap fun q => if q.2 = E then (vx_atS RX4 q.1 (p_xn E) p_xs).filter (fun w => !goodWord w) else [])
theorem p_k9 : p_thrT.all (fun q => decide (q.1.1 = 4) && decide (q.2 < 3) && p_hb (.classLink RX4 q.1.2.1 (p_xn q.2)) && p_hb (.initialized (p_xn q.2)) && decide (q.1.2.2.1 ∈ p_txT.map (fun x => x.1)) && ((vx_atS RX4 q.1.2.2.2 (p_xn q.2) p_xs).filter goodWord).all (fun w => decide (w ∈ lw_tbl)) && ((vx_atS RX4 q.1.2.2.2 (p_xn q.2) p_xs).filter (fun w => !goodWord w)).all (fun w => decide (w ∈ p_xB)) && (Cond.classLink RX4 q.1.2.1 (p_xn q.2) :: Cond.initialized (p_xn q.2) :: vx_atS RX4 q.1.2.2.2 (p_xn q.2) p_xs).all vx_ot && Bundle.fit (p_xn q.2) && p_xs.all Bundle.fit) = true := by decide +kernel
