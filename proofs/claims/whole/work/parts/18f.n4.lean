/-! THE CHECKS AT LENGTH 4 -/
theorem bo_len4_0 : bo_len 4 0 = true := by decide +kernel
theorem bo_bio4_0 : bo_bio 4 0 = true := by decide +kernel
theorem bo_wei4_0 : bo_wei 4 0 = true := by decide +kernel
theorem bo_sgl4_0 : bo_sgl 4 0 = true := by decide +kernel
theorem bo_par4_0 : bo_par 4 0 = true := by decide +kernel
theorem bo_lin4_0 : bo_lin 4 0 = true := by decide +kernel
theorem bo_tra4_01 : bo_tra 4 0 1 = true := by decide +kernel
theorem bo_tra4_02 : bo_tra 4 0 2 = true := by decide +kernel
theorem bo_kap4_0_0 : bo_kap 4 0 0 10012 = true := by decide +kernel
theorem bo_trc4_0_0 : bo_trc 4 0 0 10012 = true := by decide +kernel
theorem bo_kap4_0_2 : bo_kap 4 0 2 10045 = true := by decide +kernel
theorem bo_trc4_0_2 : bo_trc 4 0 2 10045 = true := by decide +kernel
theorem bo_kap4_0_6 : bo_kap 4 0 6 9540 = true := by decide +kernel
theorem bo_trc4_0_6 : bo_trc 4 0 6 9540 = true := by decide +kernel
theorem bo_kap4_0_10 : bo_kap 4 0 10 10479 = true := by decide +kernel
theorem bo_trc4_0_10 : bo_trc 4 0 10 10479 = true := by decide +kernel
theorem bo_kap4_0_14 : bo_kap 4 0 14 9834 = true := by decide +kernel
theorem bo_trc4_0_14 : bo_trc 4 0 14 9834 = true := by decide +kernel
theorem bo_len4_1 : bo_len 4 1 = true := by decide +kernel
theorem bo_bio4_1 : bo_bio 4 1 = true := by decide +kernel
theorem bo_wei4_1 : bo_wei 4 1 = true := by decide +kernel
theorem bo_sgl4_1 : bo_sgl 4 1 = true := by decide +kernel
theorem bo_par4_1 : bo_par 4 1 = true := by decide +kernel
theorem bo_lin4_1 : bo_lin 4 1 = true := by decide +kernel
theorem bo_tra4_10 : bo_tra 4 1 0 = true := by decide +kernel
theorem bo_tra4_12 : bo_tra 4 1 2 = true := by decide +kernel
theorem bo_kap4_1_0 : bo_kap 4 1 0 10107 = true := by decide +kernel
theorem bo_trc4_1_0 : bo_trc 4 1 0 10107 = true := by decide +kernel
theorem bo_kap4_1_2 : bo_kap 4 1 2 9953 = true := by decide +kernel
theorem bo_trc4_1_2 : bo_trc 4 1 2 9953 = true := by decide +kernel
theorem bo_kap4_1_6 : bo_kap 4 1 6 10267 = true := by decide +kernel
theorem bo_trc4_1_6 : bo_trc 4 1 6 10267 = true := by decide +kernel
theorem bo_kap4_1_10 : bo_kap 4 1 10 9806 = true := by decide +kernel
theorem bo_trc4_1_10 : bo_trc 4 1 10 9806 = true := by decide +kernel
theorem bo_kap4_1_14 : bo_kap 4 1 14 10009 = true := by decide +kernel
theorem bo_trc4_1_14 : bo_trc 4 1 14 10009 = true := by decide +kernel
theorem bo_len4_2 : bo_len 4 2 = true := by decide +kernel
theorem bo_bio4_2 : bo_bio 4 2 = true := by decide +kernel
theorem bo_wei4_2 : bo_wei 4 2 = true := by decide +kernel
theorem bo_sgl4_2 : bo_sgl 4 2 = true := by decide +kernel
theorem bo_par4_2 : bo_par 4 2 = true := by decide +kernel
theorem bo_lin4_2 : bo_lin 4 2 = true := by decide +kernel
theorem bo_tra4_20 : bo_tra 4 2 0 = true := by decide +kernel
theorem bo_tra4_21 : bo_tra 4 2 1 = true := by decide +kernel
theorem bo_kap4_2_0 : bo_kap 4 2 0 10072 = true := by decide +kernel
theorem bo_trc4_2_0 : bo_trc 4 2 0 10072 = true := by decide +kernel
theorem bo_kap4_2_2 : bo_kap 4 2 2 10094 = true := by decide +kernel
theorem bo_trc4_2_2 : bo_trc 4 2 2 10094 = true := by decide +kernel
theorem bo_kap4_2_6 : bo_kap 4 2 6 10162 = true := by decide +kernel
theorem bo_trc4_2_6 : bo_trc 4 2 6 10162 = true := by decide +kernel
theorem bo_kap4_2_10 : bo_kap 4 2 10 10014 = true := by decide +kernel
theorem bo_trc4_2_10 : bo_trc 4 2 10 10014 = true := by decide +kernel
theorem bo_kap4_2_14 : bo_kap 4 2 14 9996 = true := by decide +kernel
theorem bo_trc4_2_14 : bo_trc 4 2 14 9996 = true := by decide +kernel
