/-! THE CHECKS AT LENGTH 32, wavelet 0 -/
theorem bo_len32_0 : bo_len 32 0 = true := by decide +kernel
theorem bo_bio32_0 : bo_bio 32 0 = true := by decide +kernel
theorem bo_wei32_0 : bo_wei 32 0 = true := by decide +kernel
theorem bo_sgl32_0 : bo_sgl 32 0 = true := by decide +kernel
theorem bo_par32_0 : bo_par 32 0 = true := by decide +kernel
theorem bo_lin32_0 : bo_lin 32 0 = true := by decide +kernel
theorem bo_tra32_01 : bo_tra 32 0 1 = true := by decide +kernel
theorem bo_tra32_02 : bo_tra 32 0 2 = true := by decide +kernel
theorem bo_kap32_0_0 : bo_kap 32 0 0 9983 = true := by decide +kernel
theorem bo_trc32_0_0 : bo_trc 32 0 0 9983 = true := by decide +kernel
theorem bo_kap32_0_2 : bo_kap 32 0 2 10346 = true := by decide +kernel
theorem bo_trc32_0_2 : bo_trc 32 0 2 10346 = true := by decide +kernel
theorem bo_kap32_0_6 : bo_kap 32 0 6 10880 = true := by decide +kernel
theorem bo_trc32_0_6 : bo_trc 32 0 6 10880 = true := by decide +kernel
theorem bo_kap32_0_10 : bo_kap 32 0 10 10334 = true := by decide +kernel
theorem bo_trc32_0_10 : bo_trc 32 0 10 10334 = true := by decide +kernel
theorem bo_kap32_0_14 : bo_kap 32 0 14 10948 = true := by decide +kernel
theorem bo_trc32_0_14 : bo_trc 32 0 14 10948 = true := by decide +kernel
theorem bo_kap32_0_22 : bo_kap 32 0 22 10622 = true := by decide +kernel
theorem bo_trc32_0_22 : bo_trc 32 0 22 10622 = true := by decide +kernel
theorem bo_kap32_0_30 : bo_kap 32 0 30 10640 = true := by decide +kernel
theorem bo_trc32_0_30 : bo_trc 32 0 30 10640 = true := by decide +kernel
theorem bo_kap32_0_38 : bo_kap 32 0 38 10624 = true := by decide +kernel
theorem bo_trc32_0_38 : bo_trc 32 0 38 10624 = true := by decide +kernel
theorem bo_kap32_0_46 : bo_kap 32 0 46 10687 = true := by decide +kernel
theorem bo_trc32_0_46 : bo_trc 32 0 46 10687 = true := by decide +kernel
theorem bo_kap32_0_54 : bo_kap 32 0 54 10512 = true := by decide +kernel
theorem bo_trc32_0_54 : bo_trc 32 0 54 10512 = true := by decide +kernel
theorem bo_kap32_0_62 : bo_kap 32 0 62 10491 = true := by decide +kernel
theorem bo_trc32_0_62 : bo_trc 32 0 62 10491 = true := by decide +kernel
theorem bo_kap32_0_74 : bo_kap 32 0 74 10251 = true := by decide +kernel
theorem bo_trc32_0_74 : bo_trc 32 0 74 10251 = true := by decide +kernel
theorem bo_kap32_0_78 : bo_kap 32 0 78 10802 = true := by decide +kernel
theorem bo_trc32_0_78 : bo_trc 32 0 78 10802 = true := by decide +kernel
theorem bo_kap32_0_94 : bo_kap 32 0 94 10547 = true := by decide +kernel
theorem bo_trc32_0_94 : bo_trc 32 0 94 10547 = true := by decide +kernel
theorem bo_kap32_0_110 : bo_kap 32 0 110 10543 = true := by decide +kernel
theorem bo_trc32_0_110 : bo_trc 32 0 110 10543 = true := by decide +kernel
theorem bo_kap32_0_126 : bo_kap 32 0 126 10466 = true := by decide +kernel
theorem bo_trc32_0_126 : bo_trc 32 0 126 10466 = true := by decide +kernel
theorem bo_kap32_0_138 : bo_kap 32 0 138 10275 = true := by decide +kernel
theorem bo_trc32_0_138 : bo_trc 32 0 138 10275 = true := by decide +kernel
theorem bo_kap32_0_142 : bo_kap 32 0 142 10878 = true := by decide +kernel
theorem bo_trc32_0_142 : bo_trc 32 0 142 10878 = true := by decide +kernel
theorem bo_kap32_0_158 : bo_kap 32 0 158 10586 = true := by decide +kernel
theorem bo_trc32_0_158 : bo_trc 32 0 158 10586 = true := by decide +kernel
theorem bo_kap32_0_174 : bo_kap 32 0 174 10633 = true := by decide +kernel
theorem bo_trc32_0_174 : bo_trc 32 0 174 10633 = true := by decide +kernel
theorem bo_kap32_0_190 : bo_kap 32 0 190 10491 = true := by decide +kernel
theorem bo_trc32_0_190 : bo_trc 32 0 190 10491 = true := by decide +kernel
theorem bo_kap32_0_202 : bo_kap 32 0 202 10211 = true := by decide +kernel
theorem bo_trc32_0_202 : bo_trc 32 0 202 10211 = true := by decide +kernel
theorem bo_kap32_0_206 : bo_kap 32 0 206 10742 = true := by decide +kernel
theorem bo_trc32_0_206 : bo_trc 32 0 206 10742 = true := by decide +kernel
theorem bo_kap32_0_222 : bo_kap 32 0 222 10543 = true := by decide +kernel
theorem bo_trc32_0_222 : bo_trc 32 0 222 10543 = true := by decide +kernel
theorem bo_kap32_0_238 : bo_kap 32 0 238 10547 = true := by decide +kernel
theorem bo_trc32_0_238 : bo_trc 32 0 238 10547 = true := by decide +kernel
theorem bo_kap32_0_254 : bo_kap 32 0 254 10489 = true := by decide +kernel
theorem bo_trc32_0_254 : bo_trc 32 0 254 10489 = true := by decide +kernel
