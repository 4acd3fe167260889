/-! ===== pure: draw, put together ===== -/
theorem draw_no {τ : gSt} {N : Nat} {x step : Int32} (h : ¬ ((0 ≤ x.toInt ∧ x.toInt ≤ 7874) ∧ 1 ≤ step.toInt ∧ step.toInt ≤ 10)) : f_X10_draw N τ x step = some (0, g_sf τ 6 1) := by
  unfold f_X10_draw
  simp only [gJoin0, gJoin1, asked2_0, if_true, ite_self]
  by_cases h1 : 0 ≤ x.toInt ∧ x.toInt ≤ 7874
  · rw [in_yes (x := x) (by rw [tl0]; exact h1.1) (by rw [tl7874]; exact h1.2), if_neg one_ne, in_no (x := step) (by rw [tl1, tl10]; omega), if_pos rfl]
  · rw [in_no (x := x) (by rw [tl0, tl7874]; omega), if_pos rfl]
theorem draw_no2 {τ : gSt} {N : Nat} {x step : Int32} (h : (0 ≤ x.toInt ∧ x.toInt ≤ 7874) ∧ 1 ≤ step.toInt ∧ step.toInt ≤ 10) (h2 : (τ.2 3).toInt ≤ 0 ∨ τ.2 4 ≠ 0) : f_X10_draw N τ x step = some (0, g_sf τ 6 2) := by
  unfold f_X10_draw
  simp only [gJoin0, gJoin1]
  rw [in_yes (x := x) (by rw [tl0]; exact h.1.1) (by rw [tl7874]; exact h.1.2), if_neg one_ne, in_yes (x := step) (by rw [tl1]; exact h.2.1) (by rw [tl10]; exact h.2.2), if_neg one_ne]
  simp only [asked2_1 one_ne, if_true]
  by_cases c : τ.2 3 ≤ 0
  · rw [if_pos c]
  · rw [if_neg c, if_neg (h2.elim (fun g => absurd (by rw [tle, tl0]; exact g) c) id)]
