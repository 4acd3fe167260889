/-! ===== pure: all calls ===== -/
theorem owe_all {N : Nat} (hN : 1000000000000000000000 < N) : Owe_all N :=
  ⟨owe_runners, owe_spread hN, owe_setHeight N, owe_hill (by omega), owe_setGround (by omega), owe_control (by omega), owe_visit (by omega), owe_arrange hN, owe_enter N, owe_draw (by omega), owe_punch (by omega), owe_fail (by omega), owe_cell N, owe_lines (by omega), owe_rings (by omega), owe_longest (by omega), owe_cost hN, owe_costByCells hN, owe_climb hN, owe_tempts hN, owe_courseAt N, owe_courseClimb hN, owe_courseCost hN, owe_startOf N, owe_stateOf (by omega), owe_split (by omega), owe_total (by omega), owe_rank (by omega), owe_lost (by omega)⟩
theorem pure_main {L : Nat} {xs : Nat → Int32} (hL : L ≤ 3074) : ∃ N n, f_L_loop N L xs n 2 (S0L (f_L_cell L xs 0) (f_L_cell L xs 1)) = some 1 :=
  pure_of (N := 1000000000000000000001) hL (owe_all (by decide))
