theorem p_xB_0 : p_xB = [] := by decide +kernel
