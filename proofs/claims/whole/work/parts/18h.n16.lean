/-! THE CHECKS AT LENGTH 16 -/
theorem bo_len16_0 : bo_len 16 0 = true := by decide +kernel
theorem bo_bio16_0 : bo_bio 16 0 = true := by decide +kernel
theorem bo_wei16_0 : bo_wei 16 0 = true := by decide +kernel
theorem bo_sgl16_0 : bo_sgl 16 0 = true := by decide +kernel
theorem bo_par16_0 : bo_par 16 0 = true := by decide +kernel
theorem bo_lin16_0 : bo_lin 16 0 = true := by decide +kernel
theorem bo_tra16_01 : bo_tra 16 0 1 = true := by decide +kernel
theorem bo_tra16_02 : bo_tra 16 0 2 = true := by decide +kernel
theorem bo_kap16_0_0 : bo_kap 16 0 0 10096 = true := by decide +kernel
theorem bo_trc16_0_0 : bo_trc 16 0 0 10096 = true := by decide +kernel
theorem bo_kap16_0_2 : bo_kap 16 0 2 10338 = true := by decide +kernel
theorem bo_trc16_0_2 : bo_trc 16 0 2 10338 = true := by decide +kernel
theorem bo_kap16_0_6 : bo_kap 16 0 6 10948 = true := by decide +kernel
theorem bo_trc16_0_6 : bo_trc 16 0 6 10948 = true := by decide +kernel
theorem bo_kap16_0_10 : bo_kap 16 0 10 10354 = true := by decide +kernel
theorem bo_trc16_0_10 : bo_trc 16 0 10 10354 = true := by decide +kernel
theorem bo_kap16_0_14 : bo_kap 16 0 14 11027 = true := by decide +kernel
theorem bo_trc16_0_14 : bo_trc 16 0 14 11027 = true := by decide +kernel
theorem bo_kap16_0_22 : bo_kap 16 0 22 10633 = true := by decide +kernel
theorem bo_trc16_0_22 : bo_trc 16 0 22 10633 = true := by decide +kernel
theorem bo_kap16_0_30 : bo_kap 16 0 30 10675 = true := by decide +kernel
theorem bo_trc16_0_30 : bo_trc 16 0 30 10675 = true := by decide +kernel
theorem bo_kap16_0_38 : bo_kap 16 0 38 10708 = true := by decide +kernel
theorem bo_trc16_0_38 : bo_trc 16 0 38 10708 = true := by decide +kernel
theorem bo_kap16_0_46 : bo_kap 16 0 46 10766 = true := by decide +kernel
theorem bo_trc16_0_46 : bo_trc 16 0 46 10766 = true := by decide +kernel
theorem bo_kap16_0_54 : bo_kap 16 0 54 10557 = true := by decide +kernel
theorem bo_trc16_0_54 : bo_trc 16 0 54 10557 = true := by decide +kernel
theorem bo_kap16_0_62 : bo_kap 16 0 62 10550 = true := by decide +kernel
theorem bo_trc16_0_62 : bo_trc 16 0 62 10550 = true := by decide +kernel
theorem bo_kap16_0_74 : bo_kap 16 0 74 10298 = true := by decide +kernel
theorem bo_trc16_0_74 : bo_trc 16 0 74 10298 = true := by decide +kernel
theorem bo_kap16_0_78 : bo_kap 16 0 78 10917 = true := by decide +kernel
theorem bo_trc16_0_78 : bo_trc 16 0 78 10917 = true := by decide +kernel
theorem bo_kap16_0_94 : bo_kap 16 0 94 10632 = true := by decide +kernel
theorem bo_trc16_0_94 : bo_trc 16 0 94 10632 = true := by decide +kernel
theorem bo_kap16_0_110 : bo_kap 16 0 110 10673 = true := by decide +kernel
theorem bo_trc16_0_110 : bo_trc 16 0 110 10673 = true := by decide +kernel
theorem bo_kap16_0_126 : bo_kap 16 0 126 10572 = true := by decide +kernel
theorem bo_trc16_0_126 : bo_trc 16 0 126 10572 = true := by decide +kernel
theorem bo_kap16_0_138 : bo_kap 16 0 138 10277 = true := by decide +kernel
theorem bo_trc16_0_138 : bo_trc 16 0 138 10277 = true := by decide +kernel
theorem bo_kap16_0_142 : bo_kap 16 0 142 10957 = true := by decide +kernel
theorem bo_trc16_0_142 : bo_trc 16 0 142 10957 = true := by decide +kernel
theorem bo_kap16_0_158 : bo_kap 16 0 158 10615 = true := by decide +kernel
theorem bo_trc16_0_158 : bo_trc 16 0 158 10615 = true := by decide +kernel
theorem bo_kap16_0_174 : bo_kap 16 0 174 10708 = true := by decide +kernel
theorem bo_trc16_0_174 : bo_trc 16 0 174 10708 = true := by decide +kernel
theorem bo_kap16_0_190 : bo_kap 16 0 190 10542 = true := by decide +kernel
theorem bo_trc16_0_190 : bo_trc 16 0 190 10542 = true := by decide +kernel
theorem bo_kap16_0_202 : bo_kap 16 0 202 10246 = true := by decide +kernel
theorem bo_trc16_0_202 : bo_trc 16 0 202 10246 = true := by decide +kernel
theorem bo_kap16_0_206 : bo_kap 16 0 206 10860 = true := by decide +kernel
theorem bo_trc16_0_206 : bo_trc 16 0 206 10860 = true := by decide +kernel
theorem bo_kap16_0_222 : bo_kap 16 0 222 10618 = true := by decide +kernel
theorem bo_trc16_0_222 : bo_trc 16 0 222 10618 = true := by decide +kernel
theorem bo_kap16_0_238 : bo_kap 16 0 238 10647 = true := by decide +kernel
theorem bo_trc16_0_238 : bo_trc 16 0 238 10647 = true := by decide +kernel
theorem bo_kap16_0_254 : bo_kap 16 0 254 10588 = true := by decide +kernel
theorem bo_trc16_0_254 : bo_trc 16 0 254 10588 = true := by decide +kernel
theorem bo_len16_1 : bo_len 16 1 = true := by decide +kernel
theorem bo_bio16_1 : bo_bio 16 1 = true := by decide +kernel
theorem bo_wei16_1 : bo_wei 16 1 = true := by decide +kernel
theorem bo_sgl16_1 : bo_sgl 16 1 = true := by decide +kernel
theorem bo_par16_1 : bo_par 16 1 = true := by decide +kernel
theorem bo_lin16_1 : bo_lin 16 1 = true := by decide +kernel
theorem bo_tra16_10 : bo_tra 16 1 0 = true := by decide +kernel
theorem bo_tra16_12 : bo_tra 16 1 2 = true := by decide +kernel
theorem bo_kap16_1_0 : bo_kap 16 1 0 10039 = true := by decide +kernel
theorem bo_trc16_1_0 : bo_trc 16 1 0 10039 = true := by decide +kernel
theorem bo_kap16_1_2 : bo_kap 16 1 2 10626 = true := by decide +kernel
theorem bo_trc16_1_2 : bo_trc 16 1 2 10626 = true := by decide +kernel
theorem bo_kap16_1_6 : bo_kap 16 1 6 10657 = true := by decide +kernel
theorem bo_trc16_1_6 : bo_trc 16 1 6 10657 = true := by decide +kernel
theorem bo_kap16_1_10 : bo_kap 16 1 10 10891 = true := by decide +kernel
theorem bo_trc16_1_10 : bo_trc 16 1 10 10891 = true := by decide +kernel
theorem bo_kap16_1_14 : bo_kap 16 1 14 10995 = true := by decide +kernel
theorem bo_trc16_1_14 : bo_trc 16 1 14 10995 = true := by decide +kernel
theorem bo_kap16_1_22 : bo_kap 16 1 22 11207 = true := by decide +kernel
theorem bo_trc16_1_22 : bo_trc 16 1 22 11207 = true := by decide +kernel
theorem bo_kap16_1_30 : bo_kap 16 1 30 11323 = true := by decide +kernel
theorem bo_trc16_1_30 : bo_trc 16 1 30 11323 = true := by decide +kernel
theorem bo_kap16_1_38 : bo_kap 16 1 38 10701 = true := by decide +kernel
theorem bo_trc16_1_38 : bo_trc 16 1 38 10701 = true := by decide +kernel
theorem bo_kap16_1_46 : bo_kap 16 1 46 10984 = true := by decide +kernel
theorem bo_trc16_1_46 : bo_trc 16 1 46 10984 = true := by decide +kernel
theorem bo_kap16_1_54 : bo_kap 16 1 54 11201 = true := by decide +kernel
theorem bo_trc16_1_54 : bo_trc 16 1 54 11201 = true := by decide +kernel
theorem bo_kap16_1_62 : bo_kap 16 1 62 11284 = true := by decide +kernel
theorem bo_trc16_1_62 : bo_trc 16 1 62 11284 = true := by decide +kernel
theorem bo_kap16_1_74 : bo_kap 16 1 74 11033 = true := by decide +kernel
theorem bo_trc16_1_74 : bo_trc 16 1 74 11033 = true := by decide +kernel
theorem bo_kap16_1_78 : bo_kap 16 1 78 11013 = true := by decide +kernel
theorem bo_trc16_1_78 : bo_trc 16 1 78 11013 = true := by decide +kernel
theorem bo_kap16_1_94 : bo_kap 16 1 94 11289 = true := by decide +kernel
theorem bo_trc16_1_94 : bo_trc 16 1 94 11289 = true := by decide +kernel
theorem bo_kap16_1_110 : bo_kap 16 1 110 11113 = true := by decide +kernel
theorem bo_trc16_1_110 : bo_trc 16 1 110 11113 = true := by decide +kernel
theorem bo_kap16_1_126 : bo_kap 16 1 126 11224 = true := by decide +kernel
theorem bo_trc16_1_126 : bo_trc 16 1 126 11224 = true := by decide +kernel
theorem bo_kap16_1_138 : bo_kap 16 1 138 10337 = true := by decide +kernel
theorem bo_trc16_1_138 : bo_trc 16 1 138 10337 = true := by decide +kernel
theorem bo_kap16_1_142 : bo_kap 16 1 142 10584 = true := by decide +kernel
theorem bo_trc16_1_142 : bo_trc 16 1 142 10584 = true := by decide +kernel
theorem bo_kap16_1_158 : bo_kap 16 1 158 10857 = true := by decide +kernel
theorem bo_trc16_1_158 : bo_trc 16 1 158 10857 = true := by decide +kernel
theorem bo_kap16_1_174 : bo_kap 16 1 174 10754 = true := by decide +kernel
theorem bo_trc16_1_174 : bo_trc 16 1 174 10754 = true := by decide +kernel
theorem bo_kap16_1_190 : bo_kap 16 1 190 10885 = true := by decide +kernel
theorem bo_trc16_1_190 : bo_trc 16 1 190 10885 = true := by decide +kernel
theorem bo_kap16_1_202 : bo_kap 16 1 202 10632 = true := by decide +kernel
theorem bo_trc16_1_202 : bo_trc 16 1 202 10632 = true := by decide +kernel
theorem bo_kap16_1_206 : bo_kap 16 1 206 10691 = true := by decide +kernel
theorem bo_trc16_1_206 : bo_trc 16 1 206 10691 = true := by decide +kernel
theorem bo_kap16_1_222 : bo_kap 16 1 222 10871 = true := by decide +kernel
theorem bo_trc16_1_222 : bo_trc 16 1 222 10871 = true := by decide +kernel
theorem bo_kap16_1_238 : bo_kap 16 1 238 10994 = true := by decide +kernel
theorem bo_trc16_1_238 : bo_trc 16 1 238 10994 = true := by decide +kernel
theorem bo_kap16_1_254 : bo_kap 16 1 254 10928 = true := by decide +kernel
theorem bo_trc16_1_254 : bo_trc 16 1 254 10928 = true := by decide +kernel
theorem bo_len16_2 : bo_len 16 2 = true := by decide +kernel
theorem bo_bio16_2 : bo_bio 16 2 = true := by decide +kernel
theorem bo_wei16_2 : bo_wei 16 2 = true := by decide +kernel
theorem bo_sgl16_2 : bo_sgl 16 2 = true := by decide +kernel
theorem bo_par16_2 : bo_par 16 2 = true := by decide +kernel
theorem bo_lin16_2 : bo_lin 16 2 = true := by decide +kernel
theorem bo_tra16_20 : bo_tra 16 2 0 = true := by decide +kernel
theorem bo_tra16_21 : bo_tra 16 2 1 = true := by decide +kernel
theorem bo_kap16_2_0 : bo_kap 16 2 0 9676 = true := by decide +kernel
theorem bo_trc16_2_0 : bo_trc 16 2 0 9676 = true := by decide +kernel
theorem bo_kap16_2_2 : bo_kap 16 2 2 10062 = true := by decide +kernel
theorem bo_trc16_2_2 : bo_trc 16 2 2 10062 = true := by decide +kernel
theorem bo_kap16_2_6 : bo_kap 16 2 6 10395 = true := by decide +kernel
theorem bo_trc16_2_6 : bo_trc 16 2 6 10395 = true := by decide +kernel
theorem bo_kap16_2_10 : bo_kap 16 2 10 10104 = true := by decide +kernel
theorem bo_trc16_2_10 : bo_trc 16 2 10 10104 = true := by decide +kernel
theorem bo_kap16_2_14 : bo_kap 16 2 14 10464 = true := by decide +kernel
theorem bo_trc16_2_14 : bo_trc 16 2 14 10464 = true := by decide +kernel
theorem bo_kap16_2_22 : bo_kap 16 2 22 11086 = true := by decide +kernel
theorem bo_trc16_2_22 : bo_trc 16 2 22 11086 = true := by decide +kernel
theorem bo_kap16_2_30 : bo_kap 16 2 30 10937 = true := by decide +kernel
theorem bo_trc16_2_30 : bo_trc 16 2 30 10937 = true := by decide +kernel
theorem bo_kap16_2_38 : bo_kap 16 2 38 10622 = true := by decide +kernel
theorem bo_trc16_2_38 : bo_trc 16 2 38 10622 = true := by decide +kernel
theorem bo_kap16_2_46 : bo_kap 16 2 46 10501 = true := by decide +kernel
theorem bo_trc16_2_46 : bo_trc 16 2 46 10501 = true := by decide +kernel
theorem bo_kap16_2_54 : bo_kap 16 2 54 10821 = true := by decide +kernel
theorem bo_trc16_2_54 : bo_trc 16 2 54 10821 = true := by decide +kernel
theorem bo_kap16_2_62 : bo_kap 16 2 62 10744 = true := by decide +kernel
theorem bo_trc16_2_62 : bo_trc 16 2 62 10744 = true := by decide +kernel
theorem bo_kap16_2_74 : bo_kap 16 2 74 10467 = true := by decide +kernel
theorem bo_trc16_2_74 : bo_trc 16 2 74 10467 = true := by decide +kernel
theorem bo_kap16_2_78 : bo_kap 16 2 78 10882 = true := by decide +kernel
theorem bo_trc16_2_78 : bo_trc 16 2 78 10882 = true := by decide +kernel
theorem bo_kap16_2_94 : bo_kap 16 2 94 11078 = true := by decide +kernel
theorem bo_trc16_2_94 : bo_trc 16 2 94 11078 = true := by decide +kernel
theorem bo_kap16_2_110 : bo_kap 16 2 110 10911 = true := by decide +kernel
theorem bo_trc16_2_110 : bo_trc 16 2 110 10911 = true := by decide +kernel
theorem bo_kap16_2_126 : bo_kap 16 2 126 10997 = true := by decide +kernel
theorem bo_trc16_2_126 : bo_trc 16 2 126 10997 = true := by decide +kernel
theorem bo_kap16_2_138 : bo_kap 16 2 138 10318 = true := by decide +kernel
theorem bo_trc16_2_138 : bo_trc 16 2 138 10318 = true := by decide +kernel
theorem bo_kap16_2_142 : bo_kap 16 2 142 10844 = true := by decide +kernel
theorem bo_trc16_2_142 : bo_trc 16 2 142 10844 = true := by decide +kernel
theorem bo_kap16_2_158 : bo_kap 16 2 158 11236 = true := by decide +kernel
theorem bo_trc16_2_158 : bo_trc 16 2 158 11236 = true := by decide +kernel
theorem bo_kap16_2_174 : bo_kap 16 2 174 10795 = true := by decide +kernel
theorem bo_trc16_2_174 : bo_trc 16 2 174 10795 = true := by decide +kernel
theorem bo_kap16_2_190 : bo_kap 16 2 190 11038 = true := by decide +kernel
theorem bo_trc16_2_190 : bo_trc 16 2 190 11038 = true := by decide +kernel
theorem bo_kap16_2_202 : bo_kap 16 2 202 10808 = true := by decide +kernel
theorem bo_trc16_2_202 : bo_trc 16 2 202 10808 = true := by decide +kernel
theorem bo_kap16_2_206 : bo_kap 16 2 206 11243 = true := by decide +kernel
theorem bo_trc16_2_206 : bo_trc 16 2 206 11243 = true := by decide +kernel
theorem bo_kap16_2_222 : bo_kap 16 2 222 11464 = true := by decide +kernel
theorem bo_trc16_2_222 : bo_trc 16 2 222 11464 = true := by decide +kernel
theorem bo_kap16_2_238 : bo_kap 16 2 238 11236 = true := by decide +kernel
theorem bo_trc16_2_238 : bo_trc 16 2 238 11236 = true := by decide +kernel
theorem bo_kap16_2_254 : bo_kap 16 2 254 11371 = true := by decide +kernel
theorem bo_trc16_2_254 : bo_trc 16 2 254 11371 = true := by decide +kernel
