theorem jlaw_ok (xs : Nat → Int32) (L : Nat) (hL : L ≤ 3072) : f_L_law_l18 xs L 10000 jM0 0 = some 1 := sorry
