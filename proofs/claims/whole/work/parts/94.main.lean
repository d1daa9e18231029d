theorem pure_main (xs : Nat → Int32) (L : Nat) (hL : L ≤ 3072) : ∃ S', G_L_law_18 xs L 3000 0 S_12 = some (1, S') := sorry
