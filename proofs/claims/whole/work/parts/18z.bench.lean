theorem bn_2 : bo_kap 32 2 254 10826 = true := by decide +kernel
