/-! THE REFERENCE: sizes, lifting steps -/
def q_pO (wv step : Nat) (sg : Int64) (h : Nat) (E O : Nat → Int64) : Nat → Int64 := q_seg 0 h (fun j => O j + sg * q_oc wv step (E j) (E (q_nx h j))) O
def q_pE (wv step : Nat) (sg : Int64) (h : Nat) (E O : Nat → Int64) : Nat → Int64 := q_seg 0 h (fun j => E j + sg * q_ec wv step (O (j - 1)) (O j)) E
section ML
variable {n wv k : Nat} {w : pW}
/-- one step on evens and odds -/
def q_ps (wv step : Nat) (sg : Int64) (h : Nat) (p : (Nat → Int64) × (Nat → Int64)) : (Nat → Int64) × (Nat → Int64) := if step % 2 = 0 then (p.1, q_pO wv step sg h p.1 p.2) else (q_pE wv step sg h p.1 p.2, p.2)
def q_pu2 (wv h : Nat) : Nat → Nat → (Nat → Int64) × (Nat → Int64) → (Nat → Int64) × (Nat → Int64)
  | 0, _, p => p
  | d + 1, k, p => q_pu2 wv h d (k + 1) (q_ps wv k 1 h p)
def q_pd2 (wv h : Nat) : Nat → (Nat → Int64) × (Nat → Int64) → (Nat → Int64) × (Nat → Int64)
  | 0, p => p
  | k + 1, p => q_pd2 wv h k (q_ps wv k (-1) h p)
end ML
