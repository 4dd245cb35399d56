/-! STEPS WITHOUT ROUNDING -/
abbrev bo_p : Type := (Nat → Int) × (Nat → Int)
def bo_lO (D c0 c1 : Int) (h : Nat) (p : bo_p) : bo_p := (fun k => D * p.1 k, fun k => D * p.2 k + (c0 * p.1 k + c1 * p.1 (q_nx h k)))
def bo_lE (D c0 c1 : Int) (p : bo_p) : bo_p := (fun k => D * p.1 k + (c0 * p.2 (k - 1) + c1 * p.2 k), fun k => D * p.2 k)
def bo_lsp (w h : Nat) (p : bo_p) : bo_p := if w = 0 then bo_lE 2 0 1 (bo_lO 1 (-1) 0 h p) else if w = 1 then bo_lE 4 1 1 (bo_lO 2 (-1) (-1) h p) else bo_lE 4096 1817 1817 (bo_lO 4096 3616 3616 h (bo_lE 4096 (-217) (-217) (bo_lO 4096 (-6497) (-6497) h p)))
/-- the signal that is 1 at place t alone -/
def bo_ep (t : Nat) : bo_p := (fun k => if 2 * k = t then 1 else 0, fun k => if 2 * k + 1 = t then 1 else 0)
/-! THE CHECKS -/
def bo_lows (i : Nat) : Nat := [0, 0, 1, 0, 2, 1, 1, 0, 3, 2, 2, 1, 2, 1, 1, 0].getD i 0
def bo_D4 (w : Nat) : Int := if w = 0 then 2 else if w = 1 then 4 else 4096
/-- by how much a node's vectors are too small -/
def bo_g (w i : Nat) : Int := (bn_S w : Int) ^ (3 - q_lv i) * bo_D4 w ^ bo_lows i
def bo_K (n w i : Nat) : Int := 4095 ^ n * (if w = 0 then 2 else if w = 1 then 16 else 2 ^ 84) ^ q_lv i
def bo_sg (w : Nat) : Int := 4095 * (bn_S w : Int) ^ 3 * 2 ^ 10
def bo_py : Int := 2117
def bo_qy : Int := 2048
def bo_B : Int := 335000000000000
def bo_Lm (w : Nat) : Int := if w = 2 then 709000000000000 else 2 ^ 52
noncomputable def bo_eta (n w : Nat) : List Int := bn_mp (fun d => Int.ediv (2 ^ 40 + d - 1) d) (bo_de n w)
def bo_all (n : Nat) : List Nat := (List.range 16).flatMap fun i => if 1 ≤ i then (List.range (q_wd n i)).map fun k => 32 * i + k else []
def bo_ur (i j : Nat) : Bool := decide (i = j) || (!(q_in i j) && !(q_in j i))
noncomputable def bo_al (n w a b : Nat) : Int := bn_dl (bn_ml (bo_de n w) (bo_at (bo_U n w) a)) (bo_at (bo_U n w) b)
noncomputable def bo_be (n w a b : Nat) : Int := bn_dl (bn_ml (bo_eta n w) (bo_at (bo_V n w) a)) (bo_at (bo_V n w) b)
noncomputable def bo_kap (n w b s : Nat) : Bool := (fun M => bn_psd n (bn_md (10000000 - 519 * s) 10000000 M) && bn_psd n (bn_md (1481 * s - 10000000) (-10000000) M)) (bn_tri (bo_de n w) ((bo_ls n (q_bs b)).map (bo_at (bo_U n w))))
noncomputable def bo_len (n w : Nat) : Bool := (bo_all n).all (fun a => decide ((bo_at (bo_U n w) a).length = n) && decide ((bo_at (bo_V n w) a).length = n)) && decide ((bo_de n w).length = n)
noncomputable def bo_bio (n w : Nat) : Bool := (bo_all n).all fun a => (bo_all n).all fun b => !(bo_ur (a / 32) (b / 32)) || decide (bn_dl (bo_at (bo_V n w) a) (bo_at (bo_U n w) b) = if a = b then bo_K n w (a / 32) else 0)
noncomputable def bo_wei (n w : Nat) : Bool := (List.range n).all fun c => decide (0 < (bo_de n w).getD c 0) && decide (2 ^ 40 ≤ (bo_de n w).getD c 0 * (bo_eta n w).getD c 0) && decide (0 ≤ (bo_eta n w).getD c 0)
noncomputable def bo_sgl (n w : Nat) : Bool := (bo_all n).all fun a => (fun al be => decide (if a / 32 = 1 then bo_qy ^ 2 * (al * be) ≤ bo_py ^ 2 * (bo_K n w (a / 32) ^ 2 * 2 ^ 40) else bo_qy ^ 4 * (al * be) ≤ bo_py ^ 4 * (bo_K n w (a / 32) ^ 2 * 2 ^ 40)) && decide (be * (bo_sg w * bo_B) ^ 2 ≤ (bo_Lm w * bo_g w (a / 32) * bo_K n w (a / 32)) ^ 2 * 2 ^ 40) && decide (bo_g w (a / 32) ^ 2 * al ≤ 8 * bo_sg w ^ 2) && decide (0 ≤ be)) (bo_al n w a a) (bo_be n w a a)
noncomputable def bo_pr1 (c ka kb a11 a12 a22 b11 b12 b22 : Int) : Bool := (fun dt => (fun m11 m12 m22 => decide (0 < dt) && decide (0 ≤ m11) && decide (0 ≤ m22) && decide (m12 * m12 ≤ m11 * m22)) (bo_py ^ 6 * c * (ka * ka * b22) - bo_qy ^ 6 * (dt * a11)) (-(bo_py ^ 6 * c * (ka * kb * b12)) - bo_qy ^ 6 * (dt * a12)) (bo_py ^ 6 * c * (kb * kb * b11) - bo_qy ^ 6 * (dt * a22))) (b11 * b22 - b12 * b12)
noncomputable def bo_par (n w : Nat) : Bool := (bo_all n).all fun a => decide (a < 64) || (bo_all n).all fun b => decide (b ≤ a) || !(bo_ur (a / 32) (b / 32)) || bo_pr1 (2 ^ 40) (bo_K n w (a / 32)) (bo_K n w (b / 32)) (bo_al n w a a) (bo_al n w a b) (bo_al n w b b) (bo_be n w a a) (bo_be n w a b) (bo_be n w b b)
noncomputable def bo_trc (n w b s : Nat) : Bool := decide (1481 * (s : Int) * ((bo_ls n (q_bs b)).map fun a => bo_g w (a / 32) ^ 2 * bo_al n w a a).sum ≤ 10000000 * (87 * bo_sg w ^ 2))
noncomputable def bn_m2 (c d : Int) (M : bn_VV) : bn_VV → bn_VV := @List.rec (List Int) (fun _ => bn_VV → bn_VV) (fun _ => []) (fun r _ ih N => @List.rec (List Int) (fun _ => bn_VV) [] (fun s N _ => bn_ln c d r s :: ih N) N) M
noncomputable def bo_tra (n w v : Nat) : Bool := bn_psd n (bn_m2 (bo_py ^ 4) (-bo_qy ^ 4) (bn_tri (bo_de n w) ((bo_ls n (q_bs 0)).map (bo_at (bo_U n w)))) (bn_tri (bo_de n v) ((bo_ls n (q_bs 0)).map (bo_at (bo_U n v)))))
noncomputable def bn_cb (n : Nat) (cs : List Int) : bn_VV → List Int := @List.rec Int (fun _ => bn_VV → List Int) (fun _ => List.replicate n 0) (fun x _ ih us => @List.rec (List Int) (fun _ => List Int) (List.replicate n 0) (fun u us _ => if x = 0 then ih us else bn_ln x 1 u (ih us)) us) cs
noncomputable def bo_lin (n w : Nat) : Bool := (List.range 8).all fun i => decide (i = 0) || decide (q_wd n i < 2) || (List.range (q_wd n i)).all fun t => bn_fv ((List.range (q_wd n i / 2)).map fun q => bo_D4 w * (bo_lsp w (q_wd n i / 2) (bo_ep t)).1 q) fun e => bn_fv ((List.range (q_wd n i / 2)).map fun q => (bo_lsp w (q_wd n i / 2) (bo_ep t)).2 q) fun o => decide (bn_mp (Int.mul ((bn_S w : Int) ^ 2)) (bo_at (bo_U n w) (32 * i + t)) = bn_ln 1 1 (bn_cb n e ((List.range (q_wd n i / 2)).map fun q => bo_at (bo_U n w) (64 * i + q))) (bn_cb n o ((List.range (q_wd n i / 2)).map fun q => bo_at (bo_U n w) (64 * i + 32 + q))))
