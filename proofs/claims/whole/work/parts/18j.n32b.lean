/-! THE CHECKS AT LENGTH 32, wavelet 1 -/
theorem bo_len32_1 : bo_len 32 1 = true := by decide +kernel
theorem bo_bio32_1 : bo_bio 32 1 = true := by decide +kernel
theorem bo_wei32_1 : bo_wei 32 1 = true := by decide +kernel
theorem bo_sgl32_1 : bo_sgl 32 1 = true := by decide +kernel
theorem bo_par32_1 : bo_par 32 1 = true := by decide +kernel
theorem bo_lin32_1 : bo_lin 32 1 = true := by decide +kernel
theorem bo_tra32_10 : bo_tra 32 1 0 = true := by decide +kernel
theorem bo_tra32_12 : bo_tra 32 1 2 = true := by decide +kernel
theorem bo_kap32_1_0 : bo_kap 32 1 0 9972 = true := by decide +kernel
theorem bo_trc32_1_0 : bo_trc 32 1 0 9972 = true := by decide +kernel
theorem bo_kap32_1_2 : bo_kap 32 1 2 10587 = true := by decide +kernel
theorem bo_trc32_1_2 : bo_trc 32 1 2 10587 = true := by decide +kernel
theorem bo_kap32_1_6 : bo_kap 32 1 6 10542 = true := by decide +kernel
theorem bo_trc32_1_6 : bo_trc 32 1 6 10542 = true := by decide +kernel
theorem bo_kap32_1_10 : bo_kap 32 1 10 10940 = true := by decide +kernel
theorem bo_trc32_1_10 : bo_trc 32 1 10 10940 = true := by decide +kernel
theorem bo_kap32_1_14 : bo_kap 32 1 14 10918 = true := by decide +kernel
theorem bo_trc32_1_14 : bo_trc 32 1 14 10918 = true := by decide +kernel
theorem bo_kap32_1_22 : bo_kap 32 1 22 11184 = true := by decide +kernel
theorem bo_trc32_1_22 : bo_trc 32 1 22 11184 = true := by decide +kernel
theorem bo_kap32_1_30 : bo_kap 32 1 30 11331 = true := by decide +kernel
theorem bo_trc32_1_30 : bo_trc 32 1 30 11331 = true := by decide +kernel
theorem bo_kap32_1_38 : bo_kap 32 1 38 10680 = true := by decide +kernel
theorem bo_trc32_1_38 : bo_trc 32 1 38 10680 = true := by decide +kernel
theorem bo_kap32_1_46 : bo_kap 32 1 46 10957 = true := by decide +kernel
theorem bo_trc32_1_46 : bo_trc 32 1 46 10957 = true := by decide +kernel
theorem bo_kap32_1_54 : bo_kap 32 1 54 11176 = true := by decide +kernel
theorem bo_trc32_1_54 : bo_trc 32 1 54 11176 = true := by decide +kernel
theorem bo_kap32_1_62 : bo_kap 32 1 62 11297 = true := by decide +kernel
theorem bo_trc32_1_62 : bo_trc 32 1 62 11297 = true := by decide +kernel
theorem bo_kap32_1_74 : bo_kap 32 1 74 10923 = true := by decide +kernel
theorem bo_trc32_1_74 : bo_trc 32 1 74 10923 = true := by decide +kernel
theorem bo_kap32_1_78 : bo_kap 32 1 78 10902 = true := by decide +kernel
theorem bo_trc32_1_78 : bo_trc 32 1 78 10902 = true := by decide +kernel
theorem bo_kap32_1_94 : bo_kap 32 1 94 11297 = true := by decide +kernel
theorem bo_trc32_1_94 : bo_trc 32 1 94 11297 = true := by decide +kernel
theorem bo_kap32_1_110 : bo_kap 32 1 110 11038 = true := by decide +kernel
theorem bo_trc32_1_110 : bo_trc 32 1 110 11038 = true := by decide +kernel
theorem bo_kap32_1_126 : bo_kap 32 1 126 11226 = true := by decide +kernel
theorem bo_trc32_1_126 : bo_trc 32 1 126 11226 = true := by decide +kernel
theorem bo_kap32_1_138 : bo_kap 32 1 138 10436 = true := by decide +kernel
theorem bo_trc32_1_138 : bo_trc 32 1 138 10436 = true := by decide +kernel
theorem bo_kap32_1_142 : bo_kap 32 1 142 10546 = true := by decide +kernel
theorem bo_trc32_1_142 : bo_trc 32 1 142 10546 = true := by decide +kernel
theorem bo_kap32_1_158 : bo_kap 32 1 158 10876 = true := by decide +kernel
theorem bo_trc32_1_158 : bo_trc 32 1 158 10876 = true := by decide +kernel
theorem bo_kap32_1_174 : bo_kap 32 1 174 10734 = true := by decide +kernel
theorem bo_trc32_1_174 : bo_trc 32 1 174 10734 = true := by decide +kernel
theorem bo_kap32_1_190 : bo_kap 32 1 190 10828 = true := by decide +kernel
theorem bo_trc32_1_190 : bo_trc 32 1 190 10828 = true := by decide +kernel
theorem bo_kap32_1_202 : bo_kap 32 1 202 10486 = true := by decide +kernel
theorem bo_trc32_1_202 : bo_trc 32 1 202 10486 = true := by decide +kernel
theorem bo_kap32_1_206 : bo_kap 32 1 206 10500 = true := by decide +kernel
theorem bo_trc32_1_206 : bo_trc 32 1 206 10500 = true := by decide +kernel
theorem bo_kap32_1_222 : bo_kap 32 1 222 10890 = true := by decide +kernel
theorem bo_trc32_1_222 : bo_trc 32 1 222 10890 = true := by decide +kernel
theorem bo_kap32_1_238 : bo_kap 32 1 238 10983 = true := by decide +kernel
theorem bo_trc32_1_238 : bo_trc 32 1 238 10983 = true := by decide +kernel
theorem bo_kap32_1_254 : bo_kap 32 1 254 10888 = true := by decide +kernel
theorem bo_trc32_1_254 : bo_trc 32 1 254 10888 = true := by decide +kernel
