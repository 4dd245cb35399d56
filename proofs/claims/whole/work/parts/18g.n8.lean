/-! THE CHECKS AT LENGTH 8 -/
theorem bo_len8_0 : bo_len 8 0 = true := by decide +kernel
theorem bo_bio8_0 : bo_bio 8 0 = true := by decide +kernel
theorem bo_wei8_0 : bo_wei 8 0 = true := by decide +kernel
theorem bo_sgl8_0 : bo_sgl 8 0 = true := by decide +kernel
theorem bo_par8_0 : bo_par 8 0 = true := by decide +kernel
theorem bo_lin8_0 : bo_lin 8 0 = true := by decide +kernel
theorem bo_tra8_01 : bo_tra 8 0 1 = true := by decide +kernel
theorem bo_tra8_02 : bo_tra 8 0 2 = true := by decide +kernel
theorem bo_kap8_0_0 : bo_kap 8 0 0 10046 = true := by decide +kernel
theorem bo_trc8_0_0 : bo_trc 8 0 0 10046 = true := by decide +kernel
theorem bo_kap8_0_2 : bo_kap 8 0 2 10569 = true := by decide +kernel
theorem bo_trc8_0_2 : bo_trc 8 0 2 10569 = true := by decide +kernel
theorem bo_kap8_0_6 : bo_kap 8 0 6 10521 = true := by decide +kernel
theorem bo_trc8_0_6 : bo_trc 8 0 6 10521 = true := by decide +kernel
theorem bo_kap8_0_10 : bo_kap 8 0 10 10769 = true := by decide +kernel
theorem bo_trc8_0_10 : bo_trc 8 0 10 10769 = true := by decide +kernel
theorem bo_kap8_0_14 : bo_kap 8 0 14 10775 = true := by decide +kernel
theorem bo_trc8_0_14 : bo_trc 8 0 14 10775 = true := by decide +kernel
theorem bo_kap8_0_22 : bo_kap 8 0 22 10130 = true := by decide +kernel
theorem bo_trc8_0_22 : bo_trc 8 0 22 10130 = true := by decide +kernel
theorem bo_kap8_0_30 : bo_kap 8 0 30 10391 = true := by decide +kernel
theorem bo_trc8_0_30 : bo_trc 8 0 30 10391 = true := by decide +kernel
theorem bo_kap8_0_38 : bo_kap 8 0 38 10390 = true := by decide +kernel
theorem bo_trc8_0_38 : bo_trc 8 0 38 10390 = true := by decide +kernel
theorem bo_kap8_0_46 : bo_kap 8 0 46 10690 = true := by decide +kernel
theorem bo_trc8_0_46 : bo_trc 8 0 46 10690 = true := by decide +kernel
theorem bo_kap8_0_54 : bo_kap 8 0 54 10000 = true := by decide +kernel
theorem bo_trc8_0_54 : bo_trc 8 0 54 10000 = true := by decide +kernel
theorem bo_kap8_0_62 : bo_kap 8 0 62 10309 = true := by decide +kernel
theorem bo_trc8_0_62 : bo_trc 8 0 62 10309 = true := by decide +kernel
theorem bo_kap8_0_74 : bo_kap 8 0 74 10608 = true := by decide +kernel
theorem bo_trc8_0_74 : bo_trc 8 0 74 10608 = true := by decide +kernel
theorem bo_kap8_0_78 : bo_kap 8 0 78 10568 = true := by decide +kernel
theorem bo_trc8_0_78 : bo_trc 8 0 78 10568 = true := by decide +kernel
theorem bo_kap8_0_94 : bo_kap 8 0 94 10232 = true := by decide +kernel
theorem bo_trc8_0_94 : bo_trc 8 0 94 10232 = true := by decide +kernel
theorem bo_kap8_0_110 : bo_kap 8 0 110 10478 = true := by decide +kernel
theorem bo_trc8_0_110 : bo_trc 8 0 110 10478 = true := by decide +kernel
theorem bo_kap8_0_126 : bo_kap 8 0 126 10145 = true := by decide +kernel
theorem bo_trc8_0_126 : bo_trc 8 0 126 10145 = true := by decide +kernel
theorem bo_kap8_0_138 : bo_kap 8 0 138 10593 = true := by decide +kernel
theorem bo_trc8_0_138 : bo_trc 8 0 138 10593 = true := by decide +kernel
theorem bo_kap8_0_142 : bo_kap 8 0 142 10632 = true := by decide +kernel
theorem bo_trc8_0_142 : bo_trc 8 0 142 10632 = true := by decide +kernel
theorem bo_kap8_0_158 : bo_kap 8 0 158 10222 = true := by decide +kernel
theorem bo_trc8_0_158 : bo_trc 8 0 158 10222 = true := by decide +kernel
theorem bo_kap8_0_174 : bo_kap 8 0 174 10543 = true := by decide +kernel
theorem bo_trc8_0_174 : bo_trc 8 0 174 10543 = true := by decide +kernel
theorem bo_kap8_0_190 : bo_kap 8 0 190 10131 = true := by decide +kernel
theorem bo_trc8_0_190 : bo_trc 8 0 190 10131 = true := by decide +kernel
theorem bo_kap8_0_202 : bo_kap 8 0 202 10417 = true := by decide +kernel
theorem bo_trc8_0_202 : bo_trc 8 0 202 10417 = true := by decide +kernel
theorem bo_kap8_0_206 : bo_kap 8 0 206 10408 = true := by decide +kernel
theorem bo_trc8_0_206 : bo_trc 8 0 206 10408 = true := by decide +kernel
theorem bo_kap8_0_222 : bo_kap 8 0 222 10045 = true := by decide +kernel
theorem bo_trc8_0_222 : bo_trc 8 0 222 10045 = true := by decide +kernel
theorem bo_kap8_0_238 : bo_kap 8 0 238 10309 = true := by decide +kernel
theorem bo_trc8_0_238 : bo_trc 8 0 238 10309 = true := by decide +kernel
theorem bo_kap8_0_254 : bo_kap 8 0 254 9943 = true := by decide +kernel
theorem bo_trc8_0_254 : bo_trc 8 0 254 9943 = true := by decide +kernel
theorem bo_len8_1 : bo_len 8 1 = true := by decide +kernel
theorem bo_bio8_1 : bo_bio 8 1 = true := by decide +kernel
theorem bo_wei8_1 : bo_wei 8 1 = true := by decide +kernel
theorem bo_sgl8_1 : bo_sgl 8 1 = true := by decide +kernel
theorem bo_par8_1 : bo_par 8 1 = true := by decide +kernel
theorem bo_lin8_1 : bo_lin 8 1 = true := by decide +kernel
theorem bo_tra8_10 : bo_tra 8 1 0 = true := by decide +kernel
theorem bo_tra8_12 : bo_tra 8 1 2 = true := by decide +kernel
theorem bo_kap8_1_0 : bo_kap 8 1 0 10142 = true := by decide +kernel
theorem bo_trc8_1_0 : bo_trc 8 1 0 10142 = true := by decide +kernel
theorem bo_kap8_1_2 : bo_kap 8 1 2 10123 = true := by decide +kernel
theorem bo_trc8_1_2 : bo_trc 8 1 2 10123 = true := by decide +kernel
theorem bo_kap8_1_6 : bo_kap 8 1 6 10390 = true := by decide +kernel
theorem bo_trc8_1_6 : bo_trc 8 1 6 10390 = true := by decide +kernel
theorem bo_kap8_1_10 : bo_kap 8 1 10 10095 = true := by decide +kernel
theorem bo_trc8_1_10 : bo_trc 8 1 10 10095 = true := by decide +kernel
theorem bo_kap8_1_14 : bo_kap 8 1 14 10260 = true := by decide +kernel
theorem bo_trc8_1_14 : bo_trc 8 1 14 10260 = true := by decide +kernel
theorem bo_kap8_1_22 : bo_kap 8 1 22 10864 = true := by decide +kernel
theorem bo_trc8_1_22 : bo_trc 8 1 22 10864 = true := by decide +kernel
theorem bo_kap8_1_30 : bo_kap 8 1 30 10664 = true := by decide +kernel
theorem bo_trc8_1_30 : bo_trc 8 1 30 10664 = true := by decide +kernel
theorem bo_kap8_1_38 : bo_kap 8 1 38 10181 = true := by decide +kernel
theorem bo_trc8_1_38 : bo_trc 8 1 38 10181 = true := by decide +kernel
theorem bo_kap8_1_46 : bo_kap 8 1 46 10060 = true := by decide +kernel
theorem bo_trc8_1_46 : bo_trc 8 1 46 10060 = true := by decide +kernel
theorem bo_kap8_1_54 : bo_kap 8 1 54 10724 = true := by decide +kernel
theorem bo_trc8_1_54 : bo_trc 8 1 54 10724 = true := by decide +kernel
theorem bo_kap8_1_62 : bo_kap 8 1 62 10423 = true := by decide +kernel
theorem bo_trc8_1_62 : bo_trc 8 1 62 10423 = true := by decide +kernel
theorem bo_kap8_1_74 : bo_kap 8 1 74 10256 = true := by decide +kernel
theorem bo_trc8_1_74 : bo_trc 8 1 74 10256 = true := by decide +kernel
theorem bo_kap8_1_78 : bo_kap 8 1 78 10250 = true := by decide +kernel
theorem bo_trc8_1_78 : bo_trc 8 1 78 10250 = true := by decide +kernel
theorem bo_kap8_1_94 : bo_kap 8 1 94 10669 = true := by decide +kernel
theorem bo_trc8_1_94 : bo_trc 8 1 94 10669 = true := by decide +kernel
theorem bo_kap8_1_110 : bo_kap 8 1 110 9955 = true := by decide +kernel
theorem bo_trc8_1_110 : bo_trc 8 1 110 9955 = true := by decide +kernel
theorem bo_kap8_1_126 : bo_kap 8 1 126 10438 = true := by decide +kernel
theorem bo_trc8_1_126 : bo_trc 8 1 126 10438 = true := by decide +kernel
theorem bo_kap8_1_138 : bo_kap 8 1 138 10057 = true := by decide +kernel
theorem bo_trc8_1_138 : bo_trc 8 1 138 10057 = true := by decide +kernel
theorem bo_kap8_1_142 : bo_kap 8 1 142 10355 = true := by decide +kernel
theorem bo_trc8_1_142 : bo_trc 8 1 142 10355 = true := by decide +kernel
theorem bo_kap8_1_158 : bo_kap 8 1 158 10706 = true := by decide +kernel
theorem bo_trc8_1_158 : bo_trc 8 1 158 10706 = true := by decide +kernel
theorem bo_kap8_1_174 : bo_kap 8 1 174 10264 = true := by decide +kernel
theorem bo_trc8_1_174 : bo_trc 8 1 174 10264 = true := by decide +kernel
theorem bo_kap8_1_190 : bo_kap 8 1 190 10531 = true := by decide +kernel
theorem bo_trc8_1_190 : bo_trc 8 1 190 10531 = true := by decide +kernel
theorem bo_kap8_1_202 : bo_kap 8 1 202 10081 = true := by decide +kernel
theorem bo_trc8_1_202 : bo_trc 8 1 202 10081 = true := by decide +kernel
theorem bo_kap8_1_206 : bo_kap 8 1 206 10275 = true := by decide +kernel
theorem bo_trc8_1_206 : bo_trc 8 1 206 10275 = true := by decide +kernel
theorem bo_kap8_1_222 : bo_kap 8 1 222 10678 = true := by decide +kernel
theorem bo_trc8_1_222 : bo_trc 8 1 222 10678 = true := by decide +kernel
theorem bo_kap8_1_238 : bo_kap 8 1 238 10081 = true := by decide +kernel
theorem bo_trc8_1_238 : bo_trc 8 1 238 10081 = true := by decide +kernel
theorem bo_kap8_1_254 : bo_kap 8 1 254 10483 = true := by decide +kernel
theorem bo_trc8_1_254 : bo_trc 8 1 254 10483 = true := by decide +kernel
theorem bo_len8_2 : bo_len 8 2 = true := by decide +kernel
theorem bo_bio8_2 : bo_bio 8 2 = true := by decide +kernel
theorem bo_wei8_2 : bo_wei 8 2 = true := by decide +kernel
theorem bo_sgl8_2 : bo_sgl 8 2 = true := by decide +kernel
theorem bo_par8_2 : bo_par 8 2 = true := by decide +kernel
theorem bo_lin8_2 : bo_lin 8 2 = true := by decide +kernel
theorem bo_tra8_20 : bo_tra 8 2 0 = true := by decide +kernel
theorem bo_tra8_21 : bo_tra 8 2 1 = true := by decide +kernel
theorem bo_kap8_2_0 : bo_kap 8 2 0 9923 = true := by decide +kernel
theorem bo_trc8_2_0 : bo_trc 8 2 0 9923 = true := by decide +kernel
theorem bo_kap8_2_2 : bo_kap 8 2 2 10274 = true := by decide +kernel
theorem bo_trc8_2_2 : bo_trc 8 2 2 10274 = true := by decide +kernel
theorem bo_kap8_2_6 : bo_kap 8 2 6 10656 = true := by decide +kernel
theorem bo_trc8_2_6 : bo_trc 8 2 6 10656 = true := by decide +kernel
theorem bo_kap8_2_10 : bo_kap 8 2 10 10528 = true := by decide +kernel
theorem bo_trc8_2_10 : bo_trc 8 2 10 10528 = true := by decide +kernel
theorem bo_kap8_2_14 : bo_kap 8 2 14 10689 = true := by decide +kernel
theorem bo_trc8_2_14 : bo_trc 8 2 14 10689 = true := by decide +kernel
theorem bo_kap8_2_22 : bo_kap 8 2 22 10361 = true := by decide +kernel
theorem bo_trc8_2_22 : bo_trc 8 2 22 10361 = true := by decide +kernel
theorem bo_kap8_2_30 : bo_kap 8 2 30 10145 = true := by decide +kernel
theorem bo_trc8_2_30 : bo_trc 8 2 30 10145 = true := by decide +kernel
theorem bo_kap8_2_38 : bo_kap 8 2 38 10572 = true := by decide +kernel
theorem bo_trc8_2_38 : bo_trc 8 2 38 10572 = true := by decide +kernel
theorem bo_kap8_2_46 : bo_kap 8 2 46 10733 = true := by decide +kernel
theorem bo_trc8_2_46 : bo_trc 8 2 46 10733 = true := by decide +kernel
theorem bo_kap8_2_54 : bo_kap 8 2 54 10262 = true := by decide +kernel
theorem bo_trc8_2_54 : bo_trc 8 2 54 10262 = true := by decide +kernel
theorem bo_kap8_2_62 : bo_kap 8 2 62 10147 = true := by decide +kernel
theorem bo_trc8_2_62 : bo_trc 8 2 62 10147 = true := by decide +kernel
theorem bo_kap8_2_74 : bo_kap 8 2 74 10493 = true := by decide +kernel
theorem bo_trc8_2_74 : bo_trc 8 2 74 10493 = true := by decide +kernel
theorem bo_kap8_2_78 : bo_kap 8 2 78 10663 = true := by decide +kernel
theorem bo_trc8_2_78 : bo_trc 8 2 78 10663 = true := by decide +kernel
theorem bo_kap8_2_94 : bo_kap 8 2 94 10131 = true := by decide +kernel
theorem bo_trc8_2_94 : bo_trc 8 2 94 10131 = true := by decide +kernel
theorem bo_kap8_2_110 : bo_kap 8 2 110 10715 = true := by decide +kernel
theorem bo_trc8_2_110 : bo_trc 8 2 110 10715 = true := by decide +kernel
theorem bo_kap8_2_126 : bo_kap 8 2 126 10104 = true := by decide +kernel
theorem bo_trc8_2_126 : bo_trc 8 2 126 10104 = true := by decide +kernel
theorem bo_kap8_2_138 : bo_kap 8 2 138 10604 = true := by decide +kernel
theorem bo_trc8_2_138 : bo_trc 8 2 138 10604 = true := by decide +kernel
theorem bo_kap8_2_142 : bo_kap 8 2 142 10904 = true := by decide +kernel
theorem bo_trc8_2_142 : bo_trc 8 2 142 10904 = true := by decide +kernel
theorem bo_kap8_2_158 : bo_kap 8 2 158 10542 = true := by decide +kernel
theorem bo_trc8_2_158 : bo_trc 8 2 158 10542 = true := by decide +kernel
theorem bo_kap8_2_174 : bo_kap 8 2 174 10973 = true := by decide +kernel
theorem bo_trc8_2_174 : bo_trc 8 2 174 10973 = true := by decide +kernel
theorem bo_kap8_2_190 : bo_kap 8 2 190 10621 = true := by decide +kernel
theorem bo_trc8_2_190 : bo_trc 8 2 190 10621 = true := by decide +kernel
theorem bo_kap8_2_202 : bo_kap 8 2 202 10566 = true := by decide +kernel
theorem bo_trc8_2_202 : bo_trc 8 2 202 10566 = true := by decide +kernel
theorem bo_kap8_2_206 : bo_kap 8 2 206 10875 = true := by decide +kernel
theorem bo_trc8_2_206 : bo_trc 8 2 206 10875 = true := by decide +kernel
theorem bo_kap8_2_222 : bo_kap 8 2 222 10506 = true := by decide +kernel
theorem bo_trc8_2_222 : bo_trc 8 2 222 10506 = true := by decide +kernel
theorem bo_kap8_2_238 : bo_kap 8 2 238 10945 = true := by decide +kernel
theorem bo_trc8_2_238 : bo_trc 8 2 238 10945 = true := by decide +kernel
theorem bo_kap8_2_254 : bo_kap 8 2 254 10586 = true := by decide +kernel
theorem bo_trc8_2_254 : bo_trc 8 2 254 10586 = true := by decide +kernel
