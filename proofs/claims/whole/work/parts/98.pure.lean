theorem pure_law (xs : Nat → Int32) (L : Nat) (hL : L ≤ 2048) : pL_L18 xs L 0 zM0 zN0 := sorry
