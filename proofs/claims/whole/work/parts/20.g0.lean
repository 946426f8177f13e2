/-- the store at the start: xs is the script, L its length -/
def ic_gs (i : Nat) : Int32 := if i = 2 then 1 else if i = 4 then 1 else if i = 5 then 1 else if i = 6 then 8 else 0
def ic_g0 (xs : Nat → Int32) (L : Nat) : ic_S := (fun b i => if b < 3 then (if 63 ≤ i then -1 else ic_gs i) else if b = 3 then ic_gs i else if b = 40 then xs i else if b = 41 then Int32.ofNat L else 0, 0)
