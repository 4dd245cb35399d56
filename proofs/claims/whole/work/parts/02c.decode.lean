def p_ln (i : Instr) : Nat := match i with
  | .iload _ | .lload _ | .aload _ | .istore _ | .lstore _ | .astore _ | .bipush _ | .ldc _ | .newarray _ => 2
  | .sipush _ | .ldc2_w _ | .iinc _ _ | .goto _ | .if_icmp _ _ | .ifCond _ _ | .getfield _ | .putfield _ | .invokevirtual _ | .invokespecial _ | .invokestatic _ | .new _ => 3
  | .tableswitch _ _ _ _ => 121
  | _ => 1
theorem p_d0 : ∀ q ∈ p_c0, decode cX0_init q.1 = .ok (q.2, p_ln q.2) := by decide +kernel
theorem p_d1 : ∀ q ∈ p_c1, decode cX0_count q.1 = .ok (q.2, p_ln q.2) := by decide +kernel
theorem p_d2 : ∀ q ∈ p_c2, decode cX0_bit q.1 = .ok (q.2, p_ln q.2) := by decide +kernel
theorem p_d3 : ∀ q ∈ p_c3, decode cX0_write q.1 = .ok (q.2, p_ln q.2) := by decide +kernel
theorem p_d4 : ∀ q ∈ p_c4, decode cX0_tell q.1 = .ok (q.2, p_ln q.2) := by decide +kernel
theorem p_d5 : ∀ q ∈ p_c5, decode cX0_knownDownTo q.1 = .ok (q.2, p_ln q.2) := by decide +kernel
theorem p_d6 : ∀ q ∈ p_c6, decode cX0_measureReach q.1 = .ok (q.2, p_ln q.2) := by decide +kernel
theorem p_d7 : ∀ q ∈ p_c7, decode cX0_writeFirstPass q.1 = .ok (q.2, p_ln q.2) := by decide +kernel
theorem p_d8 : ∀ q ∈ p_c8, decode cX0_writeSecondPass q.1 = .ok (q.2, p_ln q.2) := by decide +kernel
theorem p_d9 : ∀ q ∈ p_c9, decode cX0_isLeftOut q.1 = .ok (q.2, p_ln q.2) := by decide +kernel
theorem p_d10 : ∀ q ∈ p_c10, decode cX0_hasDescendants q.1 = .ok (q.2, p_ln q.2) := by decide +kernel
theorem p_d11 : ∀ q ∈ p_c11, decode cX0_parentOf q.1 = .ok (q.2, p_ln q.2) := by decide +kernel
theorem p_d12 : ∀ q ∈ p_c12, decode cX0_put q.1 = .ok (q.2, p_ln q.2) := by decide +kernel
theorem p_d13 : ∀ q ∈ p_c13, decode cX0_putTelling q.1 = .ok (q.2, p_ln q.2) := by decide +kernel
theorem p_d14 : ∀ q ∈ p_c14, decode cX1_init q.1 = .ok (q.2, p_ln q.2) := by decide +kernel
theorem p_d15 : ∀ q ∈ p_c15, decode cX1_wavelet q.1 = .ok (q.2, p_ln q.2) := by decide +kernel
theorem p_d16 : ∀ q ∈ p_c16, decode cX1_use q.1 = .ok (q.2, p_ln q.2) := by decide +kernel
theorem p_d17 : ∀ q ∈ p_c17, decode cX1_divide q.1 = .ok (q.2, p_ln q.2) := by decide +kernel
theorem p_d18 : ∀ q ∈ p_c18, decode cX1_unite q.1 = .ok (q.2, p_ln q.2) := by decide +kernel
theorem p_d19 : ∀ q ∈ p_c19, decode cX1_steps q.1 = .ok (q.2, p_ln q.2) := by decide +kernel
theorem p_d20 : ∀ q ∈ p_c20, decode cX1_lift q.1 = .ok (q.2, p_ln q.2) := by decide +kernel
theorem p_d21 : ∀ q ∈ p_c21, decode cX1_oddChange q.1 = .ok (q.2, p_ln q.2) := by decide +kernel
theorem p_d22 : ∀ q ∈ p_c22, decode cX1_evenChange q.1 = .ok (q.2, p_ln q.2) := by decide +kernel
theorem p_d23 : ∀ q ∈ p_c23, decode cX2_init q.1 = .ok (q.2, p_ln q.2) := by decide +kernel
theorem p_d24 : ∀ q ∈ p_c24, decode cX2_get q.1 = .ok (q.2, p_ln q.2) := by decide +kernel
theorem p_d25 : ∀ q ∈ p_c25, decode cX2_set q.1 = .ok (q.2, p_ln q.2) := by decide +kernel
theorem p_d26 : ∀ q ∈ p_c26, decode cX2_magnitude q.1 = .ok (q.2, p_ln q.2) := by decide +kernel
theorem p_d27 : ∀ q ∈ p_c27, decode cX2_clear q.1 = .ok (q.2, p_ln q.2) := by decide +kernel
theorem p_d28 : ∀ q ∈ p_c28, decode cX2_copy q.1 = .ok (q.2, p_ln q.2) := by decide +kernel
theorem p_d29 : ∀ q ∈ p_c29, decode cX3_init q.1 = .ok (q.2, p_ln q.2) := by decide +kernel
theorem p_d30 : ∀ q ∈ p_c30, decode cX3_width q.1 = .ok (q.2, p_ln q.2) := by decide +kernel
theorem p_d31 : ∀ q ∈ p_c31, decode cX3_plant q.1 = .ok (q.2, p_ln q.2) := by decide +kernel
theorem p_d32 : ∀ q ∈ p_c32, decode cX3_exists q.1 = .ok (q.2, p_ln q.2) := by decide +kernel
theorem p_d33 : ∀ q ∈ p_c33, decode cX3_hasChildren q.1 = .ok (q.2, p_ln q.2) := by decide +kernel
theorem p_d34 : ∀ q ∈ p_c34, decode cX3_canBeSplit q.1 = .ok (q.2, p_ln q.2) := by decide +kernel
theorem p_d35 : ∀ q ∈ p_c35, decode cX3_giveChildren q.1 = .ok (q.2, p_ln q.2) := by decide +kernel
theorem p_d36 : ∀ q ∈ p_c36, decode cX3_takeChildren q.1 = .ok (q.2, p_ln q.2) := by decide +kernel
theorem p_d37 : ∀ q ∈ p_c37, decode cX3_isWithin q.1 = .ok (q.2, p_ln q.2) := by decide +kernel
theorem p_d38 : ∀ q ∈ p_c38, decode cX3_levelOf q.1 = .ok (q.2, p_ln q.2) := by decide +kernel
theorem p_d39 : ∀ q ∈ p_c39, decode cX3_widthOf q.1 = .ok (q.2, p_ln q.2) := by decide +kernel
theorem p_d40 : ∀ q ∈ p_c40, decode cX3_startOf q.1 = .ok (q.2, p_ln q.2) := by decide +kernel
theorem p_d41 : ∀ q ∈ p_c41, decode cX3_leafOver q.1 = .ok (q.2, p_ln q.2) := by decide +kernel
theorem p_d42 : ∀ q ∈ p_c42, decode cX3_leafCount q.1 = .ok (q.2, p_ln q.2) := by decide +kernel
theorem p_d43 : ∀ q ∈ p_c43, decode cX4_init q.1 = .ok (q.2, p_ln q.2) := by decide +kernel
theorem p_d44 : ∀ q ∈ p_c44, decode cX4_begin q.1 = .ok (q.2, p_ln q.2) := by decide +kernel
theorem p_d45 : ∀ q ∈ p_c45, decode cX4_setSample q.1 = .ok (q.2, p_ln q.2) := by decide +kernel
theorem p_d46 : ∀ q ∈ p_c46, decode cX4_sample q.1 = .ok (q.2, p_ln q.2) := by decide +kernel
theorem p_d47 : ∀ q ∈ p_c47, decode cX4_length q.1 = .ok (q.2, p_ln q.2) := by decide +kernel
theorem p_d48 : ∀ q ∈ p_c48, decode cX4_setWavelet q.1 = .ok (q.2, p_ln q.2) := by decide +kernel
theorem p_d49 : ∀ q ∈ p_c49, decode cX4_split q.1 = .ok (q.2, p_ln q.2) := by decide +kernel
theorem p_d50 : ∀ q ∈ p_c50, decode cX4_join q.1 = .ok (q.2, p_ln q.2) := by decide +kernel
theorem p_d51 : ∀ q ∈ p_c51, decode cX4_isNode q.1 = .ok (q.2, p_ln q.2) := by decide +kernel
theorem p_d52 : ∀ q ∈ p_c52, decode cX4_isLeaf q.1 = .ok (q.2, p_ln q.2) := by decide +kernel
theorem p_d53 : ∀ q ∈ p_c53, decode cX4_leaves q.1 = .ok (q.2, p_ln q.2) := by decide +kernel
theorem p_d54 : ∀ q ∈ p_c54, decode cX4_leafAt q.1 = .ok (q.2, p_ln q.2) := by decide +kernel
theorem p_d55 : ∀ q ∈ p_c55, decode cX4_costOf q.1 = .ok (q.2, p_ln q.2) := by decide +kernel
theorem p_d56 : ∀ q ∈ p_c56, decode cX4_chooseBasis q.1 = .ok (q.2, p_ln q.2) := by decide +kernel
theorem p_d57 : ∀ q ∈ p_c57, decode cX4_sizeOf q.1 = .ok (q.2, p_ln q.2) := by decide +kernel
theorem p_d58 : ∀ q ∈ p_c58, decode cX4_number q.1 = .ok (q.2, p_ln q.2) := by decide +kernel
theorem p_d59 : ∀ q ∈ p_c59, decode cX4_setNumber q.1 = .ok (q.2, p_ln q.2) := by decide +kernel
theorem p_d60 : ∀ q ∈ p_c60, decode cX4_filtered q.1 = .ok (q.2, p_ln q.2) := by decide +kernel
theorem p_d61 : ∀ q ∈ p_c61, decode cX4_hard q.1 = .ok (q.2, p_ln q.2) := by decide +kernel
theorem p_d62 : ∀ q ∈ p_c62, decode cX4_soft q.1 = .ok (q.2, p_ln q.2) := by decide +kernel
theorem p_d63 : ∀ q ∈ p_c63, decode cX4_risk q.1 = .ok (q.2, p_ln q.2) := by decide +kernel
theorem p_d64 : ∀ q ∈ p_c64, decode cX4_bestThreshold q.1 = .ok (q.2, p_ln q.2) := by decide +kernel
theorem p_d65 : ∀ q ∈ p_c65, decode cX4_isPyramid q.1 = .ok (q.2, p_ln q.2) := by decide +kernel
theorem p_d66 : ∀ q ∈ p_c66, decode cX4_bits q.1 = .ok (q.2, p_ln q.2) := by decide +kernel
theorem p_d67 : ∀ q ∈ p_c67, decode cX4_bitAt q.1 = .ok (q.2, p_ln q.2) := by decide +kernel
theorem p_d68 : ∀ q ∈ p_c68, decode cX4_broughtBack q.1 = .ok (q.2, p_ln q.2) := by decide +kernel
theorem p_d69 : ∀ q ∈ p_c69, decode cX4_errorWith q.1 = .ok (q.2, p_ln q.2) := by decide +kernel
theorem p_d70 : ∀ q ∈ p_c70, decode cX4_bitsFor q.1 = .ok (q.2, p_ln q.2) := by decide +kernel
theorem p_d71 : ∀ q ∈ p_c71, decode cX4_requireNode q.1 = .ok (q.2, p_ln q.2) := by decide +kernel
theorem p_d72 : ∀ q ∈ p_c72, decode cX4_requireLeaf q.1 = .ok (q.2, p_ln q.2) := by decide +kernel
theorem p_d73 : ∀ q ∈ p_c73, decode cX4_requireUnsplitRoot q.1 = .ok (q.2, p_ln q.2) := by decide +kernel
theorem p_d74 : ∀ q ∈ p_c74, decode cX4_requirePyramid q.1 = .ok (q.2, p_ln q.2) := by decide +kernel
theorem p_d75 : ∀ q ∈ p_c75, decode cX4_requirePlaceInSignal q.1 = .ok (q.2, p_ln q.2) := by decide +kernel
theorem p_d76 : ∀ q ∈ p_c76, decode cX4_requirePlaceBelow q.1 = .ok (q.2, p_ln q.2) := by decide +kernel
theorem p_d77 : ∀ q ∈ p_c77, decode cX4_requireThreshold q.1 = .ok (q.2, p_ln q.2) := by decide +kernel
theorem p_d78 : ∀ q ∈ p_c78, decode cX4_requireNoise q.1 = .ok (q.2, p_ln q.2) := by decide +kernel
theorem p_d79 : ∀ q ∈ p_c79, decode cX4_requireNotNegative q.1 = .ok (q.2, p_ln q.2) := by decide +kernel
theorem p_d80 : ∀ q ∈ p_c80, decode cX4_splitLeaf q.1 = .ok (q.2, p_ln q.2) := by decide +kernel
theorem p_d81 : ∀ q ∈ p_c81, decode cX4_joinBranch q.1 = .ok (q.2, p_ln q.2) := by decide +kernel
theorem p_d82 : ∀ q ∈ p_c82, decode cX4_uniteBranch q.1 = .ok (q.2, p_ln q.2) := by decide +kernel
theorem p_d83 : ∀ q ∈ p_c83, decode cX4_splitNodesBelow q.1 = .ok (q.2, p_ln q.2) := by decide +kernel
theorem p_d84 : ∀ q ∈ p_c84, decode cX4_joinWhereLeafCostsNoMore q.1 = .ok (q.2, p_ln q.2) := by decide +kernel
theorem p_d85 : ∀ q ∈ p_c85, decode cX4_branchCost q.1 = .ok (q.2, p_ln q.2) := by decide +kernel
theorem p_d86 : ∀ q ∈ p_c86, decode cX4_digits q.1 = .ok (q.2, p_ln q.2) := by decide +kernel
theorem p_d87 : ∀ q ∈ p_c87, decode cX4_gatherSamples q.1 = .ok (q.2, p_ln q.2) := by decide +kernel
theorem p_d88 : ∀ q ∈ p_c88, decode cX4_zeroUpTo q.1 = .ok (q.2, p_ln q.2) := by decide +kernel
theorem p_d89 : ∀ q ∈ p_c89, decode cX4_softRisk q.1 = .ok (q.2, p_ln q.2) := by decide +kernel
theorem p_d90 : ∀ q ∈ p_c90, decode cX4_encode q.1 = .ok (q.2, p_ln q.2) := by decide +kernel
theorem p_d91 : ∀ q ∈ p_c91, decode cX4_readFirst q.1 = .ok (q.2, p_ln q.2) := by decide +kernel
theorem p_d92 : ∀ q ∈ p_c92, decode cX4_bringBack q.1 = .ok (q.2, p_ln q.2) := by decide +kernel
theorem p_d93 : ∀ q ∈ p_c93, decode cX4_errorOfBrought q.1 = .ok (q.2, p_ln q.2) := by decide +kernel
theorem p_d94 : ∀ q ∈ p_c94, decode cX5_init q.1 = .ok (q.2, p_ln q.2) := by decide +kernel
theorem p_d95 : ∀ q ∈ p_c95, decode cX5_thrown q.1 = .ok (q.2, p_ln q.2) := by decide +kernel
theorem p_d96 : ∀ q ∈ p_c96, decode cX5_fails q.1 = .ok (q.2, p_ln q.2) := by decide +kernel
theorem p_d97 : ∀ q ∈ p_c97, decode cX5_in q.1 = .ok (q.2, p_ln q.2) := by decide +kernel
theorem p_d98 : ∀ q ∈ p_c98, decode cX5_size q.1 = .ok (q.2, p_ln q.2) := by decide +kernel
theorem p_d99 : ∀ q ∈ p_c99, decode cX5_floor q.1 = .ok (q.2, p_ln q.2) := by decide +kernel
theorem p_d100 : ∀ q ∈ p_c100, decode cX5_digitsOf q.1 = .ok (q.2, p_ln q.2) := by decide +kernel
theorem p_d101 : ∀ q ∈ p_c101, decode cX5_sizeAt q.1 = .ok (q.2, p_ln q.2) := by decide +kernel
theorem p_d102 : ∀ q ∈ p_c102, decode cX5_has q.1 = .ok (q.2, p_ln q.2) := by decide +kernel
theorem p_d103 : ∀ q ∈ p_c103, decode cX5_begin q.1 = .ok (q.2, p_ln q.2) := by decide +kernel
theorem p_d104 : ∀ q ∈ p_c104, decode cX5_setSample q.1 = .ok (q.2, p_ln q.2) := by decide +kernel
theorem p_d105 : ∀ q ∈ p_c105, decode cX5_even q.1 = .ok (q.2, p_ln q.2) := by decide +kernel
theorem p_d106 : ∀ q ∈ p_c106, decode cX5_odd q.1 = .ok (q.2, p_ln q.2) := by decide +kernel
theorem p_d107 : ∀ q ∈ p_c107, decode cX5_added q.1 = .ok (q.2, p_ln q.2) := by decide +kernel
theorem p_d108 : ∀ q ∈ p_c108, decode cX5_steps q.1 = .ok (q.2, p_ln q.2) := by decide +kernel
theorem p_d109 : ∀ q ∈ p_c109, decode cX5_step q.1 = .ok (q.2, p_ln q.2) := by decide +kernel
theorem p_d110 : ∀ q ∈ p_c110, decode cX5_splitRow q.1 = .ok (q.2, p_ln q.2) := by decide +kernel
theorem p_d111 : ∀ q ∈ p_c111, decode cX5_joinRow q.1 = .ok (q.2, p_ln q.2) := by decide +kernel
theorem p_d112 : ∀ q ∈ p_c112, decode cX5_joinAll q.1 = .ok (q.2, p_ln q.2) := by decide +kernel
theorem p_d113 : ∀ q ∈ p_c113, decode cX5_laySamples q.1 = .ok (q.2, p_ln q.2) := by decide +kernel
theorem p_d114 : ∀ q ∈ p_c114, decode cX5_sample q.1 = .ok (q.2, p_ln q.2) := by decide +kernel
theorem p_d115 : ∀ q ∈ p_c115, decode cX5_length q.1 = .ok (q.2, p_ln q.2) := by decide +kernel
theorem p_d116 : ∀ q ∈ p_c116, decode cX5_setWavelet q.1 = .ok (q.2, p_ln q.2) := by decide +kernel
theorem p_d117 : ∀ q ∈ p_c117, decode cX5_split q.1 = .ok (q.2, p_ln q.2) := by decide +kernel
theorem p_d118 : ∀ q ∈ p_c118, decode cX5_isBelow q.1 = .ok (q.2, p_ln q.2) := by decide +kernel
theorem p_d119 : ∀ q ∈ p_c119, decode cX5_joinNode q.1 = .ok (q.2, p_ln q.2) := by decide +kernel
theorem p_d120 : ∀ q ∈ p_c120, decode cX5_join q.1 = .ok (q.2, p_ln q.2) := by decide +kernel
theorem p_d121 : ∀ q ∈ p_c121, decode cX5_isNode q.1 = .ok (q.2, p_ln q.2) := by decide +kernel
theorem p_d122 : ∀ q ∈ p_c122, decode cX5_isLeaf q.1 = .ok (q.2, p_ln q.2) := by decide +kernel
theorem p_d123 : ∀ q ∈ p_c123, decode cX5_leaves q.1 = .ok (q.2, p_ln q.2) := by decide +kernel
theorem p_d124 : ∀ q ∈ p_c124, decode cX5_leafAt q.1 = .ok (q.2, p_ln q.2) := by decide +kernel
theorem p_d125 : ∀ q ∈ p_c125, decode cX5_costIn q.1 = .ok (q.2, p_ln q.2) := by decide +kernel
theorem p_d126 : ∀ q ∈ p_c126, decode cX5_costBelow q.1 = .ok (q.2, p_ln q.2) := by decide +kernel
theorem p_d127 : ∀ q ∈ p_c127, decode cX5_costOf q.1 = .ok (q.2, p_ln q.2) := by decide +kernel
theorem p_d128_0 : ∀ q ∈ p_c128_0, decode cX5_chooseBasis q.1 = .ok (q.2, p_ln q.2) := by decide +kernel
theorem p_d128_1 : ∀ q ∈ p_c128_1, decode cX5_chooseBasis q.1 = .ok (q.2, p_ln q.2) := by decide +kernel
theorem p_d128 : ∀ q ∈ p_c128, decode cX5_chooseBasis q.1 = .ok (q.2, p_ln q.2) := List.forall_mem_append.mpr ⟨p_d128_0, p_d128_1⟩
theorem p_d129 : ∀ q ∈ p_c129, decode cX5_isLeafAt q.1 = .ok (q.2, p_ln q.2) := by decide +kernel
theorem p_d130 : ∀ q ∈ p_c130, decode cX5_sizeOf q.1 = .ok (q.2, p_ln q.2) := by decide +kernel
theorem p_d131 : ∀ q ∈ p_c131, decode cX5_number q.1 = .ok (q.2, p_ln q.2) := by decide +kernel
theorem p_d132 : ∀ q ∈ p_c132, decode cX5_setNumber q.1 = .ok (q.2, p_ln q.2) := by decide +kernel
theorem p_d133 : ∀ q ∈ p_c133, decode cX5_filtered q.1 = .ok (q.2, p_ln q.2) := by decide +kernel
theorem p_d134 : ∀ q ∈ p_c134, decode cX5_cut q.1 = .ok (q.2, p_ln q.2) := by decide +kernel
theorem p_d135 : ∀ q ∈ p_c135, decode cX5_hard q.1 = .ok (q.2, p_ln q.2) := by decide +kernel
theorem p_d136 : ∀ q ∈ p_c136, decode cX5_soft q.1 = .ok (q.2, p_ln q.2) := by decide +kernel
theorem p_d137 : ∀ q ∈ p_c137, decode cX5_riskAt q.1 = .ok (q.2, p_ln q.2) := by decide +kernel
theorem p_d138 : ∀ q ∈ p_c138, decode cX5_risk q.1 = .ok (q.2, p_ln q.2) := by decide +kernel
theorem p_d139 : ∀ q ∈ p_c139, decode cX5_bestThreshold q.1 = .ok (q.2, p_ln q.2) := by decide +kernel
theorem p_d140 : ∀ q ∈ p_c140, decode cX5_pyramid q.1 = .ok (q.2, p_ln q.2) := by decide +kernel
theorem p_d141 : ∀ q ∈ p_c141, decode cX5_isPyramid q.1 = .ok (q.2, p_ln q.2) := by decide +kernel
theorem p_d142 : ∀ q ∈ p_c142, decode cX5_fill q.1 = .ok (q.2, p_ln q.2) := by decide +kernel
theorem p_d143 : ∀ q ∈ p_c143, decode cX5_layRow q.1 = .ok (q.2, p_ln q.2) := by decide +kernel
theorem p_d144 : ∀ q ∈ p_c144, decode cX5_write q.1 = .ok (q.2, p_ln q.2) := by decide +kernel
theorem p_d145 : ∀ q ∈ p_c145, decode cX5_firstChild q.1 = .ok (q.2, p_ln q.2) := by decide +kernel
theorem p_d146 : ∀ q ∈ p_c146, decode cX5_isUnder q.1 = .ok (q.2, p_ln q.2) := by decide +kernel
theorem p_d147 : ∀ q ∈ p_c147, decode cX5_anyUnder q.1 = .ok (q.2, p_ln q.2) := by decide +kernel
theorem p_d148 : ∀ q ∈ p_c148, decode cX5_firstPass q.1 = .ok (q.2, p_ln q.2) := by decide +kernel
theorem p_d149 : ∀ q ∈ p_c149, decode cX5_layCode q.1 = .ok (q.2, p_ln q.2) := by decide +kernel
theorem p_d150 : ∀ q ∈ p_c150, decode cX5_forget q.1 = .ok (q.2, p_ln q.2) := by decide +kernel
theorem p_d151 : ∀ q ∈ p_c151, decode cX5_learn q.1 = .ok (q.2, p_ln q.2) := by decide +kernel
theorem p_d152 : ∀ q ∈ p_c152, decode cX5_back q.1 = .ok (q.2, p_ln q.2) := by decide +kernel
theorem p_d153 : ∀ q ∈ p_c153, decode cX5_pour q.1 = .ok (q.2, p_ln q.2) := by decide +kernel
theorem p_d154 : ∀ q ∈ p_c154, decode cX5_layBack q.1 = .ok (q.2, p_ln q.2) := by decide +kernel
theorem p_d155 : ∀ q ∈ p_c155, decode cX5_bits q.1 = .ok (q.2, p_ln q.2) := by decide +kernel
theorem p_d156 : ∀ q ∈ p_c156, decode cX5_bitAt q.1 = .ok (q.2, p_ln q.2) := by decide +kernel
theorem p_d157 : ∀ q ∈ p_c157, decode cX5_learnFirst q.1 = .ok (q.2, p_ln q.2) := by decide +kernel
theorem p_d158 : ∀ q ∈ p_c158, decode cX5_broughtBack q.1 = .ok (q.2, p_ln q.2) := by decide +kernel
theorem p_d159 : ∀ q ∈ p_c159, decode cX5_error q.1 = .ok (q.2, p_ln q.2) := by decide +kernel
theorem p_d160 : ∀ q ∈ p_c160, decode cX5_keepSamples q.1 = .ok (q.2, p_ln q.2) := by decide +kernel
theorem p_d161 : ∀ q ∈ p_c161, decode cX5_errorWith q.1 = .ok (q.2, p_ln q.2) := by decide +kernel
theorem p_d162 : ∀ q ∈ p_c162, decode cX5_bitsFor q.1 = .ok (q.2, p_ln q.2) := by decide +kernel
theorem p_d163 : ∀ q ∈ p_c163, decode cL_begin q.1 = .ok (q.2, p_ln q.2) := by decide +kernel
theorem p_d164 : ∀ q ∈ p_c164, decode cL_setSample q.1 = .ok (q.2, p_ln q.2) := by decide +kernel
theorem p_d165 : ∀ q ∈ p_c165, decode cL_sample q.1 = .ok (q.2, p_ln q.2) := by decide +kernel
theorem p_d166 : ∀ q ∈ p_c166, decode cL_setWavelet q.1 = .ok (q.2, p_ln q.2) := by decide +kernel
theorem p_d167 : ∀ q ∈ p_c167, decode cL_split q.1 = .ok (q.2, p_ln q.2) := by decide +kernel
theorem p_d168 : ∀ q ∈ p_c168, decode cL_join q.1 = .ok (q.2, p_ln q.2) := by decide +kernel
theorem p_d169 : ∀ q ∈ p_c169, decode cL_isLeaf q.1 = .ok (q.2, p_ln q.2) := by decide +kernel
theorem p_d170 : ∀ q ∈ p_c170, decode cL_leafAt q.1 = .ok (q.2, p_ln q.2) := by decide +kernel
theorem p_d171 : ∀ q ∈ p_c171, decode cL_costOf q.1 = .ok (q.2, p_ln q.2) := by decide +kernel
theorem p_d172 : ∀ q ∈ p_c172, decode cL_chooseBasis q.1 = .ok (q.2, p_ln q.2) := by decide +kernel
theorem p_d173 : ∀ q ∈ p_c173, decode cL_sizeOf q.1 = .ok (q.2, p_ln q.2) := by decide +kernel
theorem p_d174 : ∀ q ∈ p_c174, decode cL_number q.1 = .ok (q.2, p_ln q.2) := by decide +kernel
theorem p_d175 : ∀ q ∈ p_c175, decode cL_setNumber q.1 = .ok (q.2, p_ln q.2) := by decide +kernel
theorem p_d176 : ∀ q ∈ p_c176, decode cL_filtered q.1 = .ok (q.2, p_ln q.2) := by decide +kernel
theorem p_d177 : ∀ q ∈ p_c177, decode cL_hard q.1 = .ok (q.2, p_ln q.2) := by decide +kernel
theorem p_d178 : ∀ q ∈ p_c178, decode cL_soft q.1 = .ok (q.2, p_ln q.2) := by decide +kernel
theorem p_d179 : ∀ q ∈ p_c179, decode cL_risk q.1 = .ok (q.2, p_ln q.2) := by decide +kernel
theorem p_d180 : ∀ q ∈ p_c180, decode cL_bestThreshold q.1 = .ok (q.2, p_ln q.2) := by decide +kernel
theorem p_d181 : ∀ q ∈ p_c181, decode cL_bits q.1 = .ok (q.2, p_ln q.2) := by decide +kernel
theorem p_d182 : ∀ q ∈ p_c182, decode cL_bitAt q.1 = .ok (q.2, p_ln q.2) := by decide +kernel
theorem p_d183 : ∀ q ∈ p_c183, decode cL_broughtBack q.1 = .ok (q.2, p_ln q.2) := by decide +kernel
theorem p_d184 : ∀ q ∈ p_c184, decode cL_errorWith q.1 = .ok (q.2, p_ln q.2) := by decide +kernel
theorem p_d185 : ∀ q ∈ p_c185, decode cL_bitsFor q.1 = .ok (q.2, p_ln q.2) := by decide +kernel
theorem p_d186_0 : ∀ q ∈ p_c186_0, decode cL_law q.1 = .ok (q.2, p_ln q.2) := by decide +kernel
theorem p_d186_1 : ∀ q ∈ p_c186_1, decode cL_law q.1 = .ok (q.2, p_ln q.2) := by decide +kernel
theorem p_d186_2 : ∀ q ∈ p_c186_2, decode cL_law q.1 = .ok (q.2, p_ln q.2) := by decide +kernel
theorem p_d186_3 : ∀ q ∈ p_c186_3, decode cL_law q.1 = .ok (q.2, p_ln q.2) := by decide +kernel
theorem p_d186_4 : ∀ q ∈ p_c186_4, decode cL_law q.1 = .ok (q.2, p_ln q.2) := by decide +kernel
theorem p_d186_5 : ∀ q ∈ p_c186_5, decode cL_law q.1 = .ok (q.2, p_ln q.2) := by decide +kernel
theorem p_d186_6 : ∀ q ∈ p_c186_6, decode cL_law q.1 = .ok (q.2, p_ln q.2) := by decide +kernel
theorem p_d186_7 : ∀ q ∈ p_c186_7, decode cL_law q.1 = .ok (q.2, p_ln q.2) := by decide +kernel
theorem p_d186_8 : ∀ q ∈ p_c186_8, decode cL_law q.1 = .ok (q.2, p_ln q.2) := by decide +kernel
theorem p_d186_9 : ∀ q ∈ p_c186_9, decode cL_law q.1 = .ok (q.2, p_ln q.2) := by decide +kernel
theorem p_d186 : ∀ q ∈ p_c186, decode cL_law q.1 = .ok (q.2, p_ln q.2) := List.forall_mem_append.mpr ⟨p_d186_0, List.forall_mem_append.mpr ⟨p_d186_1, List.forall_mem_append.mpr ⟨p_d186_2, List.forall_mem_append.mpr ⟨p_d186_3, List.forall_mem_append.mpr ⟨p_d186_4, List.forall_mem_append.mpr ⟨p_d186_5, List.forall_mem_append.mpr ⟨p_d186_6, List.forall_mem_append.mpr ⟨p_d186_7, List.forall_mem_append.mpr ⟨p_d186_8, p_d186_9⟩⟩⟩⟩⟩⟩⟩⟩⟩
def p_dp (q : List (Nat × Instr) × ByteArray) : Prop := ∀ x ∈ q.1, decode q.2 x.1 = .ok (x.2, p_ln x.2)
theorem p_dc0 : ∀ q ∈ ([(p_c0, cX0_init), (p_c1, cX0_count), (p_c2, cX0_bit), (p_c3, cX0_write), (p_c4, cX0_tell), (p_c5, cX0_knownDownTo), (p_c6, cX0_measureReach), (p_c7, cX0_writeFirstPass), (p_c8, cX0_writeSecondPass), (p_c9, cX0_isLeftOut), (p_c10, cX0_hasDescendants), (p_c11, cX0_parentOf), (p_c12, cX0_put), (p_c13, cX0_putTelling), (p_c14, cX1_init), (p_c15, cX1_wavelet)] : List (List (Nat × Instr) × ByteArray)), p_dp q := List.forall_mem_cons.mpr ⟨p_d0, List.forall_mem_cons.mpr ⟨p_d1, List.forall_mem_cons.mpr ⟨p_d2, List.forall_mem_cons.mpr ⟨p_d3, List.forall_mem_cons.mpr ⟨p_d4, List.forall_mem_cons.mpr ⟨p_d5, List.forall_mem_cons.mpr ⟨p_d6, List.forall_mem_cons.mpr ⟨p_d7, List.forall_mem_cons.mpr ⟨p_d8, List.forall_mem_cons.mpr ⟨p_d9, List.forall_mem_cons.mpr ⟨p_d10, List.forall_mem_cons.mpr ⟨p_d11, List.forall_mem_cons.mpr ⟨p_d12, List.forall_mem_cons.mpr ⟨p_d13, List.forall_mem_cons.mpr ⟨p_d14, List.forall_mem_cons.mpr ⟨p_d15, fun _ h => absurd h List.not_mem_nil⟩⟩⟩⟩⟩⟩⟩⟩⟩⟩⟩⟩⟩⟩⟩⟩
theorem p_dc1 : ∀ q ∈ ([(p_c16, cX1_use), (p_c17, cX1_divide), (p_c18, cX1_unite), (p_c19, cX1_steps), (p_c20, cX1_lift), (p_c21, cX1_oddChange), (p_c22, cX1_evenChange), (p_c23, cX2_init), (p_c24, cX2_get), (p_c25, cX2_set), (p_c26, cX2_magnitude), (p_c27, cX2_clear), (p_c28, cX2_copy), (p_c29, cX3_init), (p_c30, cX3_width), (p_c31, cX3_plant)] : List (List (Nat × Instr) × ByteArray)), p_dp q := List.forall_mem_cons.mpr ⟨p_d16, List.forall_mem_cons.mpr ⟨p_d17, List.forall_mem_cons.mpr ⟨p_d18, List.forall_mem_cons.mpr ⟨p_d19, List.forall_mem_cons.mpr ⟨p_d20, List.forall_mem_cons.mpr ⟨p_d21, List.forall_mem_cons.mpr ⟨p_d22, List.forall_mem_cons.mpr ⟨p_d23, List.forall_mem_cons.mpr ⟨p_d24, List.forall_mem_cons.mpr ⟨p_d25, List.forall_mem_cons.mpr ⟨p_d26, List.forall_mem_cons.mpr ⟨p_d27, List.forall_mem_cons.mpr ⟨p_d28, List.forall_mem_cons.mpr ⟨p_d29, List.forall_mem_cons.mpr ⟨p_d30, List.forall_mem_cons.mpr ⟨p_d31, fun _ h => absurd h List.not_mem_nil⟩⟩⟩⟩⟩⟩⟩⟩⟩⟩⟩⟩⟩⟩⟩⟩
theorem p_dc2 : ∀ q ∈ ([(p_c32, cX3_exists), (p_c33, cX3_hasChildren), (p_c34, cX3_canBeSplit), (p_c35, cX3_giveChildren), (p_c36, cX3_takeChildren), (p_c37, cX3_isWithin), (p_c38, cX3_levelOf), (p_c39, cX3_widthOf), (p_c40, cX3_startOf), (p_c41, cX3_leafOver), (p_c42, cX3_leafCount), (p_c43, cX4_init), (p_c44, cX4_begin), (p_c45, cX4_setSample), (p_c46, cX4_sample), (p_c47, cX4_length)] : List (List (Nat × Instr) × ByteArray)), p_dp q := List.forall_mem_cons.mpr ⟨p_d32, List.forall_mem_cons.mpr ⟨p_d33, List.forall_mem_cons.mpr ⟨p_d34, List.forall_mem_cons.mpr ⟨p_d35, List.forall_mem_cons.mpr ⟨p_d36, List.forall_mem_cons.mpr ⟨p_d37, List.forall_mem_cons.mpr ⟨p_d38, List.forall_mem_cons.mpr ⟨p_d39, List.forall_mem_cons.mpr ⟨p_d40, List.forall_mem_cons.mpr ⟨p_d41, List.forall_mem_cons.mpr ⟨p_d42, List.forall_mem_cons.mpr ⟨p_d43, List.forall_mem_cons.mpr ⟨p_d44, List.forall_mem_cons.mpr ⟨p_d45, List.forall_mem_cons.mpr ⟨p_d46, List.forall_mem_cons.mpr ⟨p_d47, fun _ h => absurd h List.not_mem_nil⟩⟩⟩⟩⟩⟩⟩⟩⟩⟩⟩⟩⟩⟩⟩⟩
theorem p_dc3 : ∀ q ∈ ([(p_c48, cX4_setWavelet), (p_c49, cX4_split), (p_c50, cX4_join), (p_c51, cX4_isNode), (p_c52, cX4_isLeaf), (p_c53, cX4_leaves), (p_c54, cX4_leafAt), (p_c55, cX4_costOf), (p_c56, cX4_chooseBasis), (p_c57, cX4_sizeOf), (p_c58, cX4_number), (p_c59, cX4_setNumber), (p_c60, cX4_filtered), (p_c61, cX4_hard), (p_c62, cX4_soft), (p_c63, cX4_risk)] : List (List (Nat × Instr) × ByteArray)), p_dp q := List.forall_mem_cons.mpr ⟨p_d48, List.forall_mem_cons.mpr ⟨p_d49, List.forall_mem_cons.mpr ⟨p_d50, List.forall_mem_cons.mpr ⟨p_d51, List.forall_mem_cons.mpr ⟨p_d52, List.forall_mem_cons.mpr ⟨p_d53, List.forall_mem_cons.mpr ⟨p_d54, List.forall_mem_cons.mpr ⟨p_d55, List.forall_mem_cons.mpr ⟨p_d56, List.forall_mem_cons.mpr ⟨p_d57, List.forall_mem_cons.mpr ⟨p_d58, List.forall_mem_cons.mpr ⟨p_d59, List.forall_mem_cons.mpr ⟨p_d60, List.forall_mem_cons.mpr ⟨p_d61, List.forall_mem_cons.mpr ⟨p_d62, List.forall_mem_cons.mpr ⟨p_d63, fun _ h => absurd h List.not_mem_nil⟩⟩⟩⟩⟩⟩⟩⟩⟩⟩⟩⟩⟩⟩⟩⟩
theorem p_dc4 : ∀ q ∈ ([(p_c64, cX4_bestThreshold), (p_c65, cX4_isPyramid), (p_c66, cX4_bits), (p_c67, cX4_bitAt), (p_c68, cX4_broughtBack), (p_c69, cX4_errorWith), (p_c70, cX4_bitsFor), (p_c71, cX4_requireNode), (p_c72, cX4_requireLeaf), (p_c73, cX4_requireUnsplitRoot), (p_c74, cX4_requirePyramid), (p_c75, cX4_requirePlaceInSignal), (p_c76, cX4_requirePlaceBelow), (p_c77, cX4_requireThreshold), (p_c78, cX4_requireNoise), (p_c79, cX4_requireNotNegative)] : List (List (Nat × Instr) × ByteArray)), p_dp q := List.forall_mem_cons.mpr ⟨p_d64, List.forall_mem_cons.mpr ⟨p_d65, List.forall_mem_cons.mpr ⟨p_d66, List.forall_mem_cons.mpr ⟨p_d67, List.forall_mem_cons.mpr ⟨p_d68, List.forall_mem_cons.mpr ⟨p_d69, List.forall_mem_cons.mpr ⟨p_d70, List.forall_mem_cons.mpr ⟨p_d71, List.forall_mem_cons.mpr ⟨p_d72, List.forall_mem_cons.mpr ⟨p_d73, List.forall_mem_cons.mpr ⟨p_d74, List.forall_mem_cons.mpr ⟨p_d75, List.forall_mem_cons.mpr ⟨p_d76, List.forall_mem_cons.mpr ⟨p_d77, List.forall_mem_cons.mpr ⟨p_d78, List.forall_mem_cons.mpr ⟨p_d79, fun _ h => absurd h List.not_mem_nil⟩⟩⟩⟩⟩⟩⟩⟩⟩⟩⟩⟩⟩⟩⟩⟩
theorem p_dc5 : ∀ q ∈ ([(p_c80, cX4_splitLeaf), (p_c81, cX4_joinBranch), (p_c82, cX4_uniteBranch), (p_c83, cX4_splitNodesBelow), (p_c84, cX4_joinWhereLeafCostsNoMore), (p_c85, cX4_branchCost), (p_c86, cX4_digits), (p_c87, cX4_gatherSamples), (p_c88, cX4_zeroUpTo), (p_c89, cX4_softRisk), (p_c90, cX4_encode), (p_c91, cX4_readFirst), (p_c92, cX4_bringBack), (p_c93, cX4_errorOfBrought), (p_c94, cX5_init), (p_c95, cX5_thrown)] : List (List (Nat × Instr) × ByteArray)), p_dp q := List.forall_mem_cons.mpr ⟨p_d80, List.forall_mem_cons.mpr ⟨p_d81, List.forall_mem_cons.mpr ⟨p_d82, List.forall_mem_cons.mpr ⟨p_d83, List.forall_mem_cons.mpr ⟨p_d84, List.forall_mem_cons.mpr ⟨p_d85, List.forall_mem_cons.mpr ⟨p_d86, List.forall_mem_cons.mpr ⟨p_d87, List.forall_mem_cons.mpr ⟨p_d88, List.forall_mem_cons.mpr ⟨p_d89, List.forall_mem_cons.mpr ⟨p_d90, List.forall_mem_cons.mpr ⟨p_d91, List.forall_mem_cons.mpr ⟨p_d92, List.forall_mem_cons.mpr ⟨p_d93, List.forall_mem_cons.mpr ⟨p_d94, List.forall_mem_cons.mpr ⟨p_d95, fun _ h => absurd h List.not_mem_nil⟩⟩⟩⟩⟩⟩⟩⟩⟩⟩⟩⟩⟩⟩⟩⟩
theorem p_dc6 : ∀ q ∈ ([(p_c96, cX5_fails), (p_c97, cX5_in), (p_c98, cX5_size), (p_c99, cX5_floor), (p_c100, cX5_digitsOf), (p_c101, cX5_sizeAt), (p_c102, cX5_has), (p_c103, cX5_begin), (p_c104, cX5_setSample), (p_c105, cX5_even), (p_c106, cX5_odd), (p_c107, cX5_added), (p_c108, cX5_steps), (p_c109, cX5_step), (p_c110, cX5_splitRow), (p_c111, cX5_joinRow)] : List (List (Nat × Instr) × ByteArray)), p_dp q := List.forall_mem_cons.mpr ⟨p_d96, List.forall_mem_cons.mpr ⟨p_d97, List.forall_mem_cons.mpr ⟨p_d98, List.forall_mem_cons.mpr ⟨p_d99, List.forall_mem_cons.mpr ⟨p_d100, List.forall_mem_cons.mpr ⟨p_d101, List.forall_mem_cons.mpr ⟨p_d102, List.forall_mem_cons.mpr ⟨p_d103, List.forall_mem_cons.mpr ⟨p_d104, List.forall_mem_cons.mpr ⟨p_d105, List.forall_mem_cons.mpr ⟨p_d106, List.forall_mem_cons.mpr ⟨p_d107, List.forall_mem_cons.mpr ⟨p_d108, List.forall_mem_cons.mpr ⟨p_d109, List.forall_mem_cons.mpr ⟨p_d110, List.forall_mem_cons.mpr ⟨p_d111, fun _ h => absurd h List.not_mem_nil⟩⟩⟩⟩⟩⟩⟩⟩⟩⟩⟩⟩⟩⟩⟩⟩
theorem p_dc7 : ∀ q ∈ ([(p_c112, cX5_joinAll), (p_c113, cX5_laySamples), (p_c114, cX5_sample), (p_c115, cX5_length), (p_c116, cX5_setWavelet), (p_c117, cX5_split), (p_c118, cX5_isBelow), (p_c119, cX5_joinNode), (p_c120, cX5_join), (p_c121, cX5_isNode), (p_c122, cX5_isLeaf), (p_c123, cX5_leaves), (p_c124, cX5_leafAt), (p_c125, cX5_costIn), (p_c126, cX5_costBelow), (p_c127, cX5_costOf)] : List (List (Nat × Instr) × ByteArray)), p_dp q := List.forall_mem_cons.mpr ⟨p_d112, List.forall_mem_cons.mpr ⟨p_d113, List.forall_mem_cons.mpr ⟨p_d114, List.forall_mem_cons.mpr ⟨p_d115, List.forall_mem_cons.mpr ⟨p_d116, List.forall_mem_cons.mpr ⟨p_d117, List.forall_mem_cons.mpr ⟨p_d118, List.forall_mem_cons.mpr ⟨p_d119, List.forall_mem_cons.mpr ⟨p_d120, List.forall_mem_cons.mpr ⟨p_d121, List.forall_mem_cons.mpr ⟨p_d122, List.forall_mem_cons.mpr ⟨p_d123, List.forall_mem_cons.mpr ⟨p_d124, List.forall_mem_cons.mpr ⟨p_d125, List.forall_mem_cons.mpr ⟨p_d126, List.forall_mem_cons.mpr ⟨p_d127, fun _ h => absurd h List.not_mem_nil⟩⟩⟩⟩⟩⟩⟩⟩⟩⟩⟩⟩⟩⟩⟩⟩
theorem p_dc8 : ∀ q ∈ ([(p_c128, cX5_chooseBasis), (p_c129, cX5_isLeafAt), (p_c130, cX5_sizeOf), (p_c131, cX5_number), (p_c132, cX5_setNumber), (p_c133, cX5_filtered), (p_c134, cX5_cut), (p_c135, cX5_hard), (p_c136, cX5_soft), (p_c137, cX5_riskAt), (p_c138, cX5_risk), (p_c139, cX5_bestThreshold), (p_c140, cX5_pyramid), (p_c141, cX5_isPyramid), (p_c142, cX5_fill), (p_c143, cX5_layRow)] : List (List (Nat × Instr) × ByteArray)), p_dp q := List.forall_mem_cons.mpr ⟨p_d128, List.forall_mem_cons.mpr ⟨p_d129, List.forall_mem_cons.mpr ⟨p_d130, List.forall_mem_cons.mpr ⟨p_d131, List.forall_mem_cons.mpr ⟨p_d132, List.forall_mem_cons.mpr ⟨p_d133, List.forall_mem_cons.mpr ⟨p_d134, List.forall_mem_cons.mpr ⟨p_d135, List.forall_mem_cons.mpr ⟨p_d136, List.forall_mem_cons.mpr ⟨p_d137, List.forall_mem_cons.mpr ⟨p_d138, List.forall_mem_cons.mpr ⟨p_d139, List.forall_mem_cons.mpr ⟨p_d140, List.forall_mem_cons.mpr ⟨p_d141, List.forall_mem_cons.mpr ⟨p_d142, List.forall_mem_cons.mpr ⟨p_d143, fun _ h => absurd h List.not_mem_nil⟩⟩⟩⟩⟩⟩⟩⟩⟩⟩⟩⟩⟩⟩⟩⟩
theorem p_dc9 : ∀ q ∈ ([(p_c144, cX5_write), (p_c145, cX5_firstChild), (p_c146, cX5_isUnder), (p_c147, cX5_anyUnder), (p_c148, cX5_firstPass), (p_c149, cX5_layCode), (p_c150, cX5_forget), (p_c151, cX5_learn), (p_c152, cX5_back), (p_c153, cX5_pour), (p_c154, cX5_layBack), (p_c155, cX5_bits), (p_c156, cX5_bitAt), (p_c157, cX5_learnFirst), (p_c158, cX5_broughtBack), (p_c159, cX5_error)] : List (List (Nat × Instr) × ByteArray)), p_dp q := List.forall_mem_cons.mpr ⟨p_d144, List.forall_mem_cons.mpr ⟨p_d145, List.forall_mem_cons.mpr ⟨p_d146, List.forall_mem_cons.mpr ⟨p_d147, List.forall_mem_cons.mpr ⟨p_d148, List.forall_mem_cons.mpr ⟨p_d149, List.forall_mem_cons.mpr ⟨p_d150, List.forall_mem_cons.mpr ⟨p_d151, List.forall_mem_cons.mpr ⟨p_d152, List.forall_mem_cons.mpr ⟨p_d153, List.forall_mem_cons.mpr ⟨p_d154, List.forall_mem_cons.mpr ⟨p_d155, List.forall_mem_cons.mpr ⟨p_d156, List.forall_mem_cons.mpr ⟨p_d157, List.forall_mem_cons.mpr ⟨p_d158, List.forall_mem_cons.mpr ⟨p_d159, fun _ h => absurd h List.not_mem_nil⟩⟩⟩⟩⟩⟩⟩⟩⟩⟩⟩⟩⟩⟩⟩⟩
theorem p_dc10 : ∀ q ∈ ([(p_c160, cX5_keepSamples), (p_c161, cX5_errorWith), (p_c162, cX5_bitsFor), (p_c163, cL_begin), (p_c164, cL_setSample), (p_c165, cL_sample), (p_c166, cL_setWavelet), (p_c167, cL_split), (p_c168, cL_join), (p_c169, cL_isLeaf), (p_c170, cL_leafAt), (p_c171, cL_costOf), (p_c172, cL_chooseBasis), (p_c173, cL_sizeOf), (p_c174, cL_number), (p_c175, cL_setNumber)] : List (List (Nat × Instr) × ByteArray)), p_dp q := List.forall_mem_cons.mpr ⟨p_d160, List.forall_mem_cons.mpr ⟨p_d161, List.forall_mem_cons.mpr ⟨p_d162, List.forall_mem_cons.mpr ⟨p_d163, List.forall_mem_cons.mpr ⟨p_d164, List.forall_mem_cons.mpr ⟨p_d165, List.forall_mem_cons.mpr ⟨p_d166, List.forall_mem_cons.mpr ⟨p_d167, List.forall_mem_cons.mpr ⟨p_d168, List.forall_mem_cons.mpr ⟨p_d169, List.forall_mem_cons.mpr ⟨p_d170, List.forall_mem_cons.mpr ⟨p_d171, List.forall_mem_cons.mpr ⟨p_d172, List.forall_mem_cons.mpr ⟨p_d173, List.forall_mem_cons.mpr ⟨p_d174, List.forall_mem_cons.mpr ⟨p_d175, fun _ h => absurd h List.not_mem_nil⟩⟩⟩⟩⟩⟩⟩⟩⟩⟩⟩⟩⟩⟩⟩⟩
theorem p_dc11 : ∀ q ∈ ([(p_c176, cL_filtered), (p_c177, cL_hard), (p_c178, cL_soft), (p_c179, cL_risk), (p_c180, cL_bestThreshold), (p_c181, cL_bits), (p_c182, cL_bitAt), (p_c183, cL_broughtBack), (p_c184, cL_errorWith), (p_c185, cL_bitsFor), (p_c186, cL_law)] : List (List (Nat × Instr) × ByteArray)), p_dp q := List.forall_mem_cons.mpr ⟨p_d176, List.forall_mem_cons.mpr ⟨p_d177, List.forall_mem_cons.mpr ⟨p_d178, List.forall_mem_cons.mpr ⟨p_d179, List.forall_mem_cons.mpr ⟨p_d180, List.forall_mem_cons.mpr ⟨p_d181, List.forall_mem_cons.mpr ⟨p_d182, List.forall_mem_cons.mpr ⟨p_d183, List.forall_mem_cons.mpr ⟨p_d184, List.forall_mem_cons.mpr ⟨p_d185, List.forall_mem_cons.mpr ⟨p_d186, fun _ h => absurd h List.not_mem_nil⟩⟩⟩⟩⟩⟩⟩⟩⟩⟩⟩
theorem p_dall : ∀ q ∈ p_codes.zip p_bT, p_dp q := by
  show ∀ q ∈ ([(p_c0, cX0_init), (p_c1, cX0_count), (p_c2, cX0_bit), (p_c3, cX0_write), (p_c4, cX0_tell), (p_c5, cX0_knownDownTo), (p_c6, cX0_measureReach), (p_c7, cX0_writeFirstPass), (p_c8, cX0_writeSecondPass), (p_c9, cX0_isLeftOut), (p_c10, cX0_hasDescendants), (p_c11, cX0_parentOf), (p_c12, cX0_put), (p_c13, cX0_putTelling), (p_c14, cX1_init), (p_c15, cX1_wavelet)] : List (List (Nat × Instr) × ByteArray)) ++ (([(p_c16, cX1_use), (p_c17, cX1_divide), (p_c18, cX1_unite), (p_c19, cX1_steps), (p_c20, cX1_lift), (p_c21, cX1_oddChange), (p_c22, cX1_evenChange), (p_c23, cX2_init), (p_c24, cX2_get), (p_c25, cX2_set), (p_c26, cX2_magnitude), (p_c27, cX2_clear), (p_c28, cX2_copy), (p_c29, cX3_init), (p_c30, cX3_width), (p_c31, cX3_plant)] : List (List (Nat × Instr) × ByteArray)) ++ (([(p_c32, cX3_exists), (p_c33, cX3_hasChildren), (p_c34, cX3_canBeSplit), (p_c35, cX3_giveChildren), (p_c36, cX3_takeChildren), (p_c37, cX3_isWithin), (p_c38, cX3_levelOf), (p_c39, cX3_widthOf), (p_c40, cX3_startOf), (p_c41, cX3_leafOver), (p_c42, cX3_leafCount), (p_c43, cX4_init), (p_c44, cX4_begin), (p_c45, cX4_setSample), (p_c46, cX4_sample), (p_c47, cX4_length)] : List (List (Nat × Instr) × ByteArray)) ++ (([(p_c48, cX4_setWavelet), (p_c49, cX4_split), (p_c50, cX4_join), (p_c51, cX4_isNode), (p_c52, cX4_isLeaf), (p_c53, cX4_leaves), (p_c54, cX4_leafAt), (p_c55, cX4_costOf), (p_c56, cX4_chooseBasis), (p_c57, cX4_sizeOf), (p_c58, cX4_number), (p_c59, cX4_setNumber), (p_c60, cX4_filtered), (p_c61, cX4_hard), (p_c62, cX4_soft), (p_c63, cX4_risk)] : List (List (Nat × Instr) × ByteArray)) ++ (([(p_c64, cX4_bestThreshold), (p_c65, cX4_isPyramid), (p_c66, cX4_bits), (p_c67, cX4_bitAt), (p_c68, cX4_broughtBack), (p_c69, cX4_errorWith), (p_c70, cX4_bitsFor), (p_c71, cX4_requireNode), (p_c72, cX4_requireLeaf), (p_c73, cX4_requireUnsplitRoot), (p_c74, cX4_requirePyramid), (p_c75, cX4_requirePlaceInSignal), (p_c76, cX4_requirePlaceBelow), (p_c77, cX4_requireThreshold), (p_c78, cX4_requireNoise), (p_c79, cX4_requireNotNegative)] : List (List (Nat × Instr) × ByteArray)) ++ (([(p_c80, cX4_splitLeaf), (p_c81, cX4_joinBranch), (p_c82, cX4_uniteBranch), (p_c83, cX4_splitNodesBelow), (p_c84, cX4_joinWhereLeafCostsNoMore), (p_c85, cX4_branchCost), (p_c86, cX4_digits), (p_c87, cX4_gatherSamples), (p_c88, cX4_zeroUpTo), (p_c89, cX4_softRisk), (p_c90, cX4_encode), (p_c91, cX4_readFirst), (p_c92, cX4_bringBack), (p_c93, cX4_errorOfBrought), (p_c94, cX5_init), (p_c95, cX5_thrown)] : List (List (Nat × Instr) × ByteArray)) ++ (([(p_c96, cX5_fails), (p_c97, cX5_in), (p_c98, cX5_size), (p_c99, cX5_floor), (p_c100, cX5_digitsOf), (p_c101, cX5_sizeAt), (p_c102, cX5_has), (p_c103, cX5_begin), (p_c104, cX5_setSample), (p_c105, cX5_even), (p_c106, cX5_odd), (p_c107, cX5_added), (p_c108, cX5_steps), (p_c109, cX5_step), (p_c110, cX5_splitRow), (p_c111, cX5_joinRow)] : List (List (Nat × Instr) × ByteArray)) ++ (([(p_c112, cX5_joinAll), (p_c113, cX5_laySamples), (p_c114, cX5_sample), (p_c115, cX5_length), (p_c116, cX5_setWavelet), (p_c117, cX5_split), (p_c118, cX5_isBelow), (p_c119, cX5_joinNode), (p_c120, cX5_join), (p_c121, cX5_isNode), (p_c122, cX5_isLeaf), (p_c123, cX5_leaves), (p_c124, cX5_leafAt), (p_c125, cX5_costIn), (p_c126, cX5_costBelow), (p_c127, cX5_costOf)] : List (List (Nat × Instr) × ByteArray)) ++ (([(p_c128, cX5_chooseBasis), (p_c129, cX5_isLeafAt), (p_c130, cX5_sizeOf), (p_c131, cX5_number), (p_c132, cX5_setNumber), (p_c133, cX5_filtered), (p_c134, cX5_cut), (p_c135, cX5_hard), (p_c136, cX5_soft), (p_c137, cX5_riskAt), (p_c138, cX5_risk), (p_c139, cX5_bestThreshold), (p_c140, cX5_pyramid), (p_c141, cX5_isPyramid), (p_c142, cX5_fill), (p_c143, cX5_layRow)] : List (List (Nat × Instr) × ByteArray)) ++ (([(p_c144, cX5_write), (p_c145, cX5_firstChild), (p_c146, cX5_isUnder), (p_c147, cX5_anyUnder), (p_c148, cX5_firstPass), (p_c149, cX5_layCode), (p_c150, cX5_forget), (p_c151, cX5_learn), (p_c152, cX5_back), (p_c153, cX5_pour), (p_c154, cX5_layBack), (p_c155, cX5_bits), (p_c156, cX5_bitAt), (p_c157, cX5_learnFirst), (p_c158, cX5_broughtBack), (p_c159, cX5_error)] : List (List (Nat × Instr) × ByteArray)) ++ (([(p_c160, cX5_keepSamples), (p_c161, cX5_errorWith), (p_c162, cX5_bitsFor), (p_c163, cL_begin), (p_c164, cL_setSample), (p_c165, cL_sample), (p_c166, cL_setWavelet), (p_c167, cL_split), (p_c168, cL_join), (p_c169, cL_isLeaf), (p_c170, cL_leafAt), (p_c171, cL_costOf), (p_c172, cL_chooseBasis), (p_c173, cL_sizeOf), (p_c174, cL_number), (p_c175, cL_setNumber)] : List (List (Nat × Instr) × ByteArray)) ++ (([(p_c176, cL_filtered), (p_c177, cL_hard), (p_c178, cL_soft), (p_c179, cL_risk), (p_c180, cL_bestThreshold), (p_c181, cL_bits), (p_c182, cL_bitAt), (p_c183, cL_broughtBack), (p_c184, cL_errorWith), (p_c185, cL_bitsFor), (p_c186, cL_law)] : List (List (Nat × Instr) × ByteArray))))))))))))), _
  exact List.forall_mem_append.mpr ⟨p_dc0, List.forall_mem_append.mpr ⟨p_dc1, List.forall_mem_append.mpr ⟨p_dc2, List.forall_mem_append.mpr ⟨p_dc3, List.forall_mem_append.mpr ⟨p_dc4, List.forall_mem_append.mpr ⟨p_dc5, List.forall_mem_append.mpr ⟨p_dc6, List.forall_mem_append.mpr ⟨p_dc7, List.forall_mem_append.mpr ⟨p_dc8, List.forall_mem_append.mpr ⟨p_dc9, List.forall_mem_append.mpr ⟨p_dc10, p_dc11⟩⟩⟩⟩⟩⟩⟩⟩⟩⟩⟩
theorem p_dec {mi pc : Nat} {ins : Instr} (h : p_at mi pc = some ins) : decode (p_b mi) pc = .ok (ins, p_ln ins) := by
  unfold p_at at h
  cases hc : p_codes[mi]? with
  | none => rw [hc] at h; simp at h
  | some l =>
    rw [hc] at h
    have h1 : (pc, ins) ∈ l := p_lk h
    have hlen : p_bT.length = p_codes.length := rfl
    have hm : mi < p_bT.length := by rw [hlen]; exact (List.getElem?_eq_some_iff.mp hc).1
    have hb : p_bT[mi]? = some (p_b mi) := by
      rw [List.getElem?_eq_getElem hm]
      simp only [p_b, List.getD_eq_getElem?_getD, List.getElem?_eq_getElem hm, Option.getD_some]
    have h2 : (l, p_b mi) ∈ p_codes.zip p_bT := by
      apply List.mem_of_getElem? (i := mi)
      rw [List.getElem?_zip_eq_some]
      exact ⟨hc, hb⟩
    have h3 : p_dp (l, p_b mi) := p_dall (l, p_b mi) h2
    exact h3 (pc, ins) h1
def p_xn (E : Nat) : String := match E with
  | 0 => "java/lang/IllegalArgumentException"
  | 1 => "java/lang/IllegalStateException"
  | _ => "java/lang/IndexOutOfBoundsException"
def p_xs : List String := ["java/lang/RuntimeException", "java/lang/Exception"]
def p_txT : List (Nat × String) := [(52, "a signal has 4, 8, 16 or 32 samples"), (71, "a sample is -1000 to 1000"), (87, "a wavelet is 0 to 2"), (104, "the node cannot be split"), (117, "the node has no children"), (130, "there are not so many leaves"), (139, "levels are 1 to 3"), (159, "a number is set to -100000 to 100000"), (161, "the wavelet 2 has no filter here"), (193, "there are not so many bits"), (215, "there is no such node"), (217, "the node is no leaf"), (219, "the root has children"), (225, "the tree is no pyramid"), (227, "there is no such place"), (229, "a threshold is 0 to 100000"), (231, "a noise is 0 to 1000"), (233, "a number of bits, or an error, is 0 or more")]
def p_xB : List Cond := ((List.range 3).flatMap fun E => [(54, 0), (106, 1), (132, 2)].flatMap fun q => if q.2 = E then (vx_atS RX4 q.1 (p_xn E) p_xs).filter (fun w => !goodWord w) else [])
theorem p_k9 : p_thrT.all (fun q => decide (q.1.1 = 4) && decide (q.2 < 3) && p_hb (.classLink RX4 q.1.2.1 (p_xn q.2)) && p_hb (.initialized (p_xn q.2)) && decide (q.1.2.2.1 ∈ p_txT.map (fun x => x.1)) && ((vx_atS RX4 q.1.2.2.2 (p_xn q.2) p_xs).filter goodWord).all (fun w => decide (w ∈ lw_tbl)) && ((vx_atS RX4 q.1.2.2.2 (p_xn q.2) p_xs).filter (fun w => !goodWord w)).all (fun w => decide (w ∈ p_xB)) && (Cond.classLink RX4 q.1.2.1 (p_xn q.2) :: Cond.initialized (p_xn q.2) :: vx_atS RX4 q.1.2.2.2 (p_xn q.2) p_xs).all vx_ot && Bundle.fit (p_xn q.2) && p_xs.all Bundle.fit) = true := by decide +kernel
