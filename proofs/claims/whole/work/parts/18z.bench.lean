def bn_M (n : Nat) : List (List Int) := (List.range n).map fun i => (List.range (n - i)).map fun j => if j = 0 then 2 ^ 200 * 100 else (2 : Int) ^ 200 - (i * 7919 * 2 ^ 180) + (j * 104729 * 2 ^ 170)
theorem bn_1 : bo_psd 8 (bn_M 8) = true := by decide +kernel
