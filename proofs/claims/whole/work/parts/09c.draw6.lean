/-! ===== pure: draw, put together ===== -/
theorem draw_no {τ : gSt} {N : Nat} {x step : Int32} (h : ¬ ((0 ≤ x.toInt ∧ x.toInt ≤ 7874) ∧ 1 ≤ step.toInt ∧ step.toInt ≤ 10)) : f_X10_draw N τ x step = some (0, g_sf τ 6 1) := by
  unfold f_X10_draw
  simp only [gJoin0, gJoin1, asked2_0, if_true, ite_self]
  by_cases h1 : 0 ≤ x.toInt ∧ x.toInt ≤ 7874
  · rw [in_yes (x := x) (by rw [tl0]; exact h1.1) (by rw [tl7874]; exact h1.2), if_neg one_ne, in_no (x := step) (by rw [tl1, tl10]; omega), if_pos rfl]
  · rw [in_no (x := x) (by rw [tl0, tl7874]; omega), if_pos rfl]
theorem draw_no2 {τ : gSt} {N : Nat} {x step : Int32} (h : (0 ≤ x.toInt ∧ x.toInt ≤ 7874) ∧ 1 ≤ step.toInt ∧ step.toInt ≤ 10) (h2 : (τ.2 3).toInt ≤ 0 ∨ τ.2 4 ≠ 0) : f_X10_draw N τ x step = some (0, g_sf τ 6 2) := by
  unfold f_X10_draw
  simp only [gJoin0, gJoin1]
  rw [in_yes (x := x) (by rw [tl0]; exact h.1.1) (by rw [tl7874]; exact h.1.2), if_neg one_ne, in_yes (x := step) (by rw [tl1]; exact h.2.1) (by rw [tl10]; exact h.2.2), if_neg one_ne]
  simp only [asked2_1 one_ne, if_true]
  by_cases c : τ.2 3 ≤ 0
  · rw [if_pos c]
  · rw [if_neg c, if_neg (h2.elim (fun g => absurd (by rw [tle, tl0]; exact g) c) id)]
theorem owe_draw {N : Nat} (hN : 24 < N) : Owe_draw N := by
  intro σ τ x step hR
  have iE := hR.2.2.2.2.1
  have hcnt : σ.2 10 = τ.2 3 := hR.1.2.2.2.2.2.1
  have hn : (τ.2 3).toInt = ((τ.2 3).toInt.toNat : Nat) := by have := iE.1; omega
  generalize hnn : (τ.2 3).toInt.toNat = n at hn
  have hn2 : n ≤ 24 := by have := iE.2.1; omega
  unfold f_X9_draw
  simp only [gJoin0, gJoin1, drawn_z hR, f_X3_count, hcnt]
  by_cases h1 : 0 ≤ x.toInt ∧ x.toInt ≤ 7874
  · rw [need_yes (x := x) (by rw [tl0]; exact h1.1) (by rw [tl7874]; exact h1.2), if_pos rfl]
    by_cases h2 : 1 ≤ step.toInt ∧ step.toInt ≤ 10
    · rw [need_yes (x := step) (by rw [tl1]; exact h2.1) (by rw [tl10]; exact h2.2), if_pos rfl]
      by_cases c : τ.2 3 ≤ 0
      · rw [if_pos c, state0, if_neg (by decide), draw_no2 ⟨h1, h2⟩ (Or.inl (by rw [tle, tl0] at c; exact c))]
        exact Agr.no hR (by decide) (Or.inr (Or.inr rfl)) rfl
      · rw [if_neg c]
        by_cases hd : τ.2 4 = 0
        · rw [if_pos hd, state1, if_pos rfl]
          rw [tle, tl0] at c
          have key : ∀ s0, Kc σ s0 → (∀ i, i < n → s0.1 18 i = lotX x (i + 1)) → ∀ t0, Km (g_sf τ 6 0) t0 → (∀ i, i < n → t0.1 17 i = lotX x (i + 1)) → ∃ z s' t', True := fun _ _ _ _ _ _ => ⟨0, σ, τ, trivial⟩
          sorry
        · rw [if_neg hd, state0, if_neg (by decide), draw_no2 ⟨h1, h2⟩ (Or.inr hd)]
          exact Agr.no hR (by decide) (Or.inr (Or.inr rfl)) rfl
    · rw [need_no (x := step) (by rw [tl1, tl10]; omega), if_neg (by decide), draw_no (fun h => h2 h.2)]
      exact Agr.no hR (by decide) (Or.inr (Or.inl rfl)) rfl
  · rw [need_no (x := x) (by rw [tl0, tl7874]; omega), if_neg (by decide), draw_no (fun h => h1 h.1)]
    exact Agr.no hR (by decide) (Or.inr (Or.inl rfl)) rfl
