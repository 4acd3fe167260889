/-! ===== pure: courseAt, enter ===== -/
theorem len30 : gLen 10 = 30 ∧ gLen 11 = 5 ∧ gLen 8 = 12 ∧ gLen 9 = 12 ∧ gLen 16 = 24 ∧ gLen 17 = 24 ∧ gLen 20 = 24 ∧ gLen 21 = 480 ∧ gLen 22 = 480 ∧ gLen 18 = 24 := ⟨rfl, rfl, rfl, rfl, rfl, rfl, rfl, rfl, rfl, rfl⟩
/-- the length of a course, as the class asks it -/
theorem clen {σ τ : gSt} (hS : Same σ τ) {x : Int32} (h : isK x) : gget σ 11 x = τ.1 5 x.toInt.toNat := by
  rw [gget_in h.1 (by rw [len30.2.1]; exact h.2), hS.1.2.2.2.2.2.1]
theorem mul6 {x : Int32} (h : isK x) : (6 * x).toInt = 6 * x.toInt := by
  have h1 := h.1
  have h2 := h.2
  rw [tmul (by rw [tl6]; omega), tl6]
theorem ent_in {x j : Int32} (h : isK x) (h0 : 0 ≤ j.toInt) (h1 : j.toInt < 6) : (6 * x + j).toInt = 6 * x.toInt + j.toInt := by
  have h3 := h.1
  have h4 := h.2
  rw [tadd (by rw [mul6 h]; omega), mul6 h]
/-- a control of a course, as the class asks it -/
theorem cat_in {σ τ : gSt} (hR : Rel σ τ) {x j : Int32} (h : isK x) (h0 : 0 ≤ j.toInt) (h1 : j.toInt < (τ.1 5 x.toInt.toNat).toInt) : f_X2_controlAt σ x j = g_ga τ 4 (6 * x + j) := by
  unfold f_X2_controlAt
  have h3 := h.1
  have h4 := h.2
  have hl := hR.2.2.2.1.1 x.toInt.toNat
  have e := ent_in (j := j) h h0 (by omega)
  rw [clen hR.1 h, if_neg (by rw [tlt, tl0]; omega), if_neg (by rw [tle]; omega), Int32.mul_comm, gget_ga (by rw [e]; omega) (by rw [len30.1, e]; omega)]
  unfold g_ga
  rw [hR.1.1.2.2.2.2.1]
theorem cat_out {σ τ : gSt} (hS : Same σ τ) {x j : Int32} (h : isK x) (h1 : j.toInt < 0 ∨ (τ.1 5 x.toInt.toNat).toInt ≤ j.toInt) : f_X2_controlAt σ x j = -1 := by
  unfold f_X2_controlAt
  rw [clen hS h]
  simp only [tlt, tle, tl0]
  split
  · rfl
  · rw [if_pos (by omega)]
theorem owe_courseAt (N : Nat) : Owe_courseAt N := by
  intro σ τ x j hR
  unfold f_X9_courseAt f_X10_courseAt
  simp only [gJoin1, gJoin0]
  by_cases h : isK x
  · have h3 := h.1
    have h4 := h.2
    have hl := hR.2.2.2.1.1 x.toInt.toNat
    have eg : g_ga τ 5 x = τ.1 5 x.toInt.toNat := rfl
    have es : (g_ga τ 5 x - 1).toInt = (τ.1 5 x.toInt.toNat).toInt - 1 := by rw [eg, tsub (by rw [tl1]; omega), tl1]
    simp only [needK_yes h, klass_yes h, if_true, if_neg one_ne, f_X2_length, clen hR.1 h]
    rw [if_neg (c := x < 0 ∨ 5 ≤ x.toNatClampNeg) (by rw [tlt, tl0, tcl]; omega)]
    by_cases hj : 0 ≤ j.toInt ∧ j.toInt < (τ.1 5 x.toInt.toNat).toInt
    · have e := ent_in (j := j) h hj.1 (by omega)
      simp only [idx_yes hj.1 hj.2, in_yes (x := j) (a := 0) (b := g_ga τ 5 x - 1) (by rw [tl0]; exact hj.1) (by rw [es]; omega), if_true, if_neg one_ne, asked1]
      rw [if_neg (by rw [tlt, tl0, tcl, e]; omega)]
      exact Agr.yes hR.six (Or.inl rfl) rfl (cat_in hR h hj.1 hj.2).symm
    · simp only [idx_no (x := j) (b := τ.1 5 x.toInt.toNat) (by omega), in_no (x := j) (a := 0) (b := g_ga τ 5 x - 1) (by rw [es, tl0]; omega), if_true, if_neg onen, asked0]
      exact Agr.no hR (by decide) (Or.inr rfl) rfl
  · simp only [needK_no h, klass_no h, if_true, if_neg onen, asked0]
    exact Agr.no hR (by decide) (Or.inr rfl) rfl
/-- the states after a runner is entered -/
theorem rel_enter {σ τ : gSt} (hR : Rel σ τ) {x c : Int32} (hx : isK x) (hc : 0 ≤ c.toInt ∧ c.toInt ≤ 7) (hl : 2 ≤ (τ.1 5 x.toInt.toNat).toInt) (hn : (τ.2 3).toInt < 24) (hd : τ.2 4 = 0) : Rel (g_sf (g_pa (g_pa (g_pa σ 16 (τ.2 3) x) 17 (τ.2 3) c) 19 (τ.2 3) (-1)) 10 (τ.2 3 + 1)) (g_sf (g_pa (g_pa τ 6 (τ.2 3) x) 7 (τ.2 3) c) 3 (τ.2 3 + 1)) := by
  obtain ⟨⟨⟨a1, a2, a3, a4, a5, a6, a7, a8, a9, a10, a11⟩, s2, b1, b2, b3, b4, b5⟩, iT, iC, iV, iE, iS, iP⟩ := hR
  have hn0 := iE.1
  have e1 : (τ.2 3 + 1).toInt = (τ.2 3).toInt + 1 := by rw [tadd (by rw [tl1]; omega), tl1]
  have F3 : (g_sf (g_pa (g_pa τ 6 (τ.2 3) x) 7 (τ.2 3) c) 3 (τ.2 3 + 1)).2 3 = τ.2 3 + 1 := rfl
  refine ⟨⟨⟨a1, a2, a3, a4, a5, a6, ?_, ?_, a9, a10, a11⟩, ?_, b1, b2, b3, rfl, b5⟩, iT, iC, iV, ?_, ?_, iP⟩
  · show upd (σ.1 16) _ x = upd (τ.1 6) _ x
    rw [a7]
  · show upd (σ.1 17) _ c = upd (τ.1 7) _ c
    rw [a8]
  · intro k hk
    rw [F3, e1] at hk
    show upd (σ.1 19) (τ.2 3).toInt.toNat (-1) k = τ.1 8 k
    rw [upd_at]
    by_cases hk2 : k = (τ.2 3).toInt.toNat
    · rw [if_pos hk2, iS.2.1 k (by omega) (by omega)]
    · rw [if_neg hk2]
      exact s2 k (by omega)
  · refine ⟨by rw [F3, e1]; omega, by rw [F3, e1]; omega, fun k hk => ?_, fun k hk => ?_⟩
    · rw [F3, e1] at hk
      show 0 ≤ (upd (τ.1 6) (τ.2 3).toInt.toNat x k).toInt ∧ (upd (τ.1 6) (τ.2 3).toInt.toNat x k).toInt ≤ 4 ∧ 2 ≤ (τ.1 5 (upd (τ.1 6) (τ.2 3).toInt.toNat x k).toInt.toNat).toInt
      rw [upd_at]
      by_cases hk2 : k = (τ.2 3).toInt.toNat
      · rw [if_pos hk2]
        exact ⟨hx.1, by have := hx.2; omega, hl⟩
      · rw [if_neg hk2]
        exact iE.2.2.1 k (by omega)
    · rw [F3, e1] at hk
      show 0 ≤ (upd (τ.1 7) (τ.2 3).toInt.toNat c k).toInt ∧ (upd (τ.1 7) (τ.2 3).toInt.toNat c k).toInt ≤ 7
      rw [upd_at]
      by_cases hk2 : k = (τ.2 3).toInt.toNat
      · rw [if_pos hk2]
        exact hc
      · rw [if_neg hk2]
        exact iE.2.2.2 k (by omega)
  · refine ⟨iS.1, fun k hk => ?_, iS.2.2.1, fun h => ?_⟩
    · rw [F3, e1] at hk
      exact iS.2.1 k (by omega)
    · have h : τ.2 4 = 1 := h
      rw [hd] at h
      exact absurd h.symm one_ne
theorem drawn_z {σ τ : gSt} (hR : Rel σ τ) : f_X3_areDrawn σ = τ.2 4 := by
  unfold f_X3_areDrawn
  rw [hR.1.2.2.2.2.2.2]
  rcases hR.2.2.2.2.2.1.1 with h | h <;> rw [h] <;> rfl
theorem owe_enter (N : Nat) : Owe_enter N := by
  intro σ τ x c hR
  have iE := hR.2.2.2.2.1
  have hn0 := iE.1
  have hn1 := iE.2.1
  have hcnt : σ.2 10 = τ.2 3 := hR.1.2.2.2.2.2.1
  unfold f_X9_enter f_X10_enter
  simp only [gJoin1, gJoin0, drawn_z hR, f_X3_count, hcnt, f_X2_length]
  by_cases h : isK x
  · have h3 := h.1
    have h4 := h.2
    simp only [needK_yes h, klass_yes h, if_true, if_neg one_ne, clen hR.1 h]
    by_cases hc : 0 ≤ c.toInt ∧ c.toInt ≤ 7
    · simp only [need_yes (x := c) (a := 0) (b := 7) (by rw [tl0]; exact hc.1) (by rw [tl7]; exact hc.2), in_yes (x := c) (a := 0) (b := 7) (by rw [tl0]; exact hc.1) (by rw [tl7]; exact hc.2), if_true]
      by_cases hn : 24 ≤ τ.2 3
      · simp only [if_pos hn, state0, if_neg (show ¬ (3 : Nat) = 0 by decide), asked3_2 one_ne one_ne, if_true]
        exact Agr.no hR (by decide) (Or.inr (Or.inr (Or.inr rfl))) rfl
      · simp only [if_neg hn]
        rw [tle, tl24] at hn
        by_cases hd : τ.2 4 = 0
        · simp only [if_pos hd, state1, if_true]
          rw [if_neg (c := x < 0 ∨ 5 ≤ x.toNatClampNeg) (by rw [tlt, tl0, tcl]; omega)]
          have eg : g_ga τ 5 x = τ.1 5 x.toInt.toNat := rfl
          rw [eg]
          by_cases hl : τ.1 5 x.toInt.toNat < 2
          · simp only [if_pos hl, state0, if_neg (show ¬ (3 : Nat) = 0 by decide), asked3_2 one_ne one_ne, if_true]
            exact Agr.no hR (by decide) (Or.inr (Or.inr (Or.inr rfl))) rfl
          · simp only [if_neg hl, state1, if_true, asked3_3 one_ne one_ne one_ne, if_neg one_ne]
            rw [tlt, tl2] at hl
            have E3 : (g_sf τ 6 0).2 3 = τ.2 3 := rfl
            have E4 : (g_pa (g_sf τ 6 0) 6 (τ.2 3) x).2 3 = τ.2 3 := rfl
            have E5 : (g_pa (g_pa (g_sf τ 6 0) 6 (τ.2 3) x) 7 (τ.2 3) c).2 3 = τ.2 3 := rfl
            simp only [E3, E4, E5]
            rw [if_neg (by rw [tlt, tl0, tcl]; omega), if_neg (by rw [tlt, tl0, tcl]; omega)]
            have hr := rel_enter (Rel.six (x := 0) hR) (x := x) (c := c) h hc (by show 2 ≤ (τ.1 5 x.toInt.toNat).toInt; omega) (by show (τ.2 3).toInt < 24; omega) (by show τ.2 4 = 0; exact hd)
            have P1 : gput σ 16 (τ.2 3) x = g_pa σ 16 (τ.2 3) x := gput_pa hn0 (by rw [len30.2.2.2.2.1]; omega)
            have P2 : gput (g_pa σ 16 (τ.2 3) x) 17 (τ.2 3) c = g_pa (g_pa σ 16 (τ.2 3) x) 17 (τ.2 3) c := gput_pa hn0 (by rw [len30.2.2.2.2.2.1]; omega)
            have P3 : gput (g_pa (g_pa σ 16 (τ.2 3) x) 17 (τ.2 3) c) 19 (τ.2 3) (-1) = g_pa (g_pa (g_pa σ 16 (τ.2 3) x) 17 (τ.2 3) c) 19 (τ.2 3) (-1) := gput_pa hn0 (by rw [len24]; omega)
            have Q1 : (g_pa σ 16 (τ.2 3) x).2 10 = τ.2 3 := hcnt
            have Q2 : (g_pa (g_pa σ 16 (τ.2 3) x) 17 (τ.2 3) c).2 10 = τ.2 3 := hcnt
            have Q3 : (g_pa (g_pa (g_pa σ 16 (τ.2 3) x) 17 (τ.2 3) c) 19 (τ.2 3) (-1)).2 10 = τ.2 3 := hcnt
            unfold f_X3_add
            simp only [hcnt, P1, Q1, P2, Q2, P3, Q3]
            exact Agr.yes hr (Or.inl rfl) rfl rfl
        · simp only [if_neg hd, state0, if_neg (show ¬ (3 : Nat) = 0 by decide), asked3_2 one_ne one_ne, if_true]
          exact Agr.no hR (by decide) (Or.inr (Or.inr (Or.inr rfl))) rfl
    · simp only [need_no (x := c) (a := 0) (b := 7) (by rw [tl0, tl7]; omega), in_no (x := c) (a := 0) (b := 7) (by rw [tl0, tl7]; omega), if_true, if_neg (show ¬ (2 : Nat) = 0 by decide), asked3_1 one_ne]
      rw [if_neg (c := x < 0 ∨ 5 ≤ x.toNatClampNeg) (by rw [tlt, tl0, tcl]; omega)]
      simp only [ite_self]
      exact Agr.no hR (by decide) (Or.inr (Or.inr (Or.inl rfl))) rfl
  · simp only [needK_no h, klass_no h, if_true, if_neg onen, asked3_0]
    exact Agr.no hR (by decide) (Or.inr (Or.inl rfl)) rfl
