theorem pure_main {L : Nat} {xs : Nat → Int32} (hL : L ≤ 3074) : ∃ N n, f_L_loop N L xs n 2 (S0L (f_L_cell L xs 0) (f_L_cell L xs 1)) = some 1 := sorry
