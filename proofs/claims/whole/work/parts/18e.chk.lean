/-! THE CHECKS -/
/-- a tree's vectors are not far from apart: s is the middle, in 10000ths -/
noncomputable def bo_kap (n w b s : Nat) : Bool := (fun M => bn_psd n (bn_md (10000000 - 519 * s) 10000000 M) && bn_psd n (bn_md (1481 * s - 10000000) (-10000000) M)) (bn_tri (bo_de n w) ((bo_ls n (q_bs b)).map (bo_at (bo_U n w))))
