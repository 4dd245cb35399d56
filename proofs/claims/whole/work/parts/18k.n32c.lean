/-! THE CHECKS AT LENGTH 32, wavelet 2 -/
theorem bo_len32_2 : bo_len 32 2 = true := by decide +kernel
theorem bo_bio32_2 : bo_bio 32 2 = true := by decide +kernel
theorem bo_wei32_2 : bo_wei 32 2 = true := by decide +kernel
theorem bo_sgl32_2 : bo_sgl 32 2 = true := by decide +kernel
theorem bo_par32_2 : bo_par 32 2 = true := by decide +kernel
theorem bo_lin32_2 : bo_lin 32 2 = true := by decide +kernel
theorem bo_tra32_20 : bo_tra 32 2 0 = true := by decide +kernel
theorem bo_tra32_21 : bo_tra 32 2 1 = true := by decide +kernel
theorem bo_kap32_2_0 : bo_kap 32 2 0 9673 = true := by decide +kernel
theorem bo_trc32_2_0 : bo_trc 32 2 0 9673 = true := by decide +kernel
theorem bo_kap32_2_2 : bo_kap 32 2 2 10085 = true := by decide +kernel
theorem bo_trc32_2_2 : bo_trc 32 2 2 10085 = true := by decide +kernel
theorem bo_kap32_2_6 : bo_kap 32 2 6 10346 = true := by decide +kernel
theorem bo_trc32_2_6 : bo_trc 32 2 6 10346 = true := by decide +kernel
theorem bo_kap32_2_10 : bo_kap 32 2 10 10102 = true := by decide +kernel
theorem bo_trc32_2_10 : bo_trc 32 2 10 10102 = true := by decide +kernel
theorem bo_kap32_2_14 : bo_kap 32 2 14 10159 = true := by decide +kernel
theorem bo_trc32_2_14 : bo_trc 32 2 14 10159 = true := by decide +kernel
theorem bo_kap32_2_22 : bo_kap 32 2 22 11027 = true := by decide +kernel
theorem bo_trc32_2_22 : bo_trc 32 2 22 11027 = true := by decide +kernel
theorem bo_kap32_2_30 : bo_kap 32 2 30 10953 = true := by decide +kernel
theorem bo_trc32_2_30 : bo_trc 32 2 30 10953 = true := by decide +kernel
theorem bo_kap32_2_38 : bo_kap 32 2 38 10537 = true := by decide +kernel
theorem bo_trc32_2_38 : bo_trc 32 2 38 10537 = true := by decide +kernel
theorem bo_kap32_2_46 : bo_kap 32 2 46 10413 = true := by decide +kernel
theorem bo_trc32_2_46 : bo_trc 32 2 46 10413 = true := by decide +kernel
theorem bo_kap32_2_54 : bo_kap 32 2 54 10935 = true := by decide +kernel
theorem bo_trc32_2_54 : bo_trc 32 2 54 10935 = true := by decide +kernel
theorem bo_kap32_2_62 : bo_kap 32 2 62 10839 = true := by decide +kernel
theorem bo_trc32_2_62 : bo_trc 32 2 62 10839 = true := by decide +kernel
theorem bo_kap32_2_74 : bo_kap 32 2 74 10169 = true := by decide +kernel
theorem bo_trc32_2_74 : bo_trc 32 2 74 10169 = true := by decide +kernel
theorem bo_kap32_2_78 : bo_kap 32 2 78 10244 = true := by decide +kernel
theorem bo_trc32_2_78 : bo_trc 32 2 78 10244 = true := by decide +kernel
theorem bo_kap32_2_94 : bo_kap 32 2 94 10914 = true := by decide +kernel
theorem bo_trc32_2_94 : bo_trc 32 2 94 10914 = true := by decide +kernel
theorem bo_kap32_2_110 : bo_kap 32 2 110 10568 = true := by decide +kernel
theorem bo_trc32_2_110 : bo_trc 32 2 110 10568 = true := by decide +kernel
theorem bo_kap32_2_126 : bo_kap 32 2 126 10836 = true := by decide +kernel
theorem bo_trc32_2_126 : bo_trc 32 2 126 10836 = true := by decide +kernel
theorem bo_kap32_2_138 : bo_kap 32 2 138 10098 = true := by decide +kernel
theorem bo_trc32_2_138 : bo_trc 32 2 138 10098 = true := by decide +kernel
theorem bo_kap32_2_142 : bo_kap 32 2 142 10202 = true := by decide +kernel
theorem bo_trc32_2_142 : bo_trc 32 2 142 10202 = true := by decide +kernel
theorem bo_kap32_2_158 : bo_kap 32 2 158 10899 = true := by decide +kernel
theorem bo_trc32_2_158 : bo_trc 32 2 158 10899 = true := by decide +kernel
theorem bo_kap32_2_174 : bo_kap 32 2 174 10465 = true := by decide +kernel
theorem bo_trc32_2_174 : bo_trc 32 2 174 10465 = true := by decide +kernel
theorem bo_kap32_2_190 : bo_kap 32 2 190 10821 = true := by decide +kernel
theorem bo_trc32_2_190 : bo_trc 32 2 190 10821 = true := by decide +kernel
theorem bo_kap32_2_202 : bo_kap 32 2 202 10129 = true := by decide +kernel
theorem bo_trc32_2_202 : bo_trc 32 2 202 10129 = true := by decide +kernel
theorem bo_kap32_2_206 : bo_kap 32 2 206 10303 = true := by decide +kernel
theorem bo_trc32_2_206 : bo_trc 32 2 206 10303 = true := by decide +kernel
theorem bo_kap32_2_222 : bo_kap 32 2 222 10852 = true := by decide +kernel
theorem bo_trc32_2_222 : bo_trc 32 2 222 10852 = true := by decide +kernel
theorem bo_kap32_2_238 : bo_kap 32 2 238 10629 = true := by decide +kernel
theorem bo_trc32_2_238 : bo_trc 32 2 238 10629 = true := by decide +kernel
theorem bo_kap32_2_254 : bo_kap 32 2 254 10826 = true := by decide +kernel
theorem bo_trc32_2_254 : bo_trc 32 2 254 10826 = true := by decide +kernel
