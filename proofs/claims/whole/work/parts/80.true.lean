theorem ic_true {L : Nat} (hL : L ≤ 3072) {xs : Nat → Int32} : ∃ g', fL_law (ic_g0 xs L) = some (1, g') := sorry
