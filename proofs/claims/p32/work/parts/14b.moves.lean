/-! ===== pure: turned maps: visit, enter, fail, control ===== -/
theorem Tr.sa {τ t : gSt} (h : Tr τ t) {r : Nat} {f : Nat → Int32} (r3 : 3 ≤ r) : Tr (g_sa τ r f) (g_sa t r f) := by
  obtain ⟨hi, hh, hg, hc, hr⟩ := h
  refine ⟨hi, fun k hk => ?_, fun k hk => ?_, fun k hk => ?_, fun r' h3 h11 => ?_⟩
  · rw [sa_1, if_neg (by omega), sa_1, if_neg (by omega)]; exact hh k hk
  · rw [sa_1, if_neg (by omega), sa_1, if_neg (by omega)]; exact hg k hk
  · rw [sa_1, if_neg (by omega), sa_1, if_neg (by omega)]; exact hc k hk
  · rw [sa_1, sa_1]
    by_cases c : r' = r
    · rw [if_pos c, if_pos c]
    · rw [if_neg c, if_neg c]; exact hr r' h3 h11
theorem Tr.pa {τ t : gSt} (h : Tr τ t) {r : Nat} {i x : Int32} (r3 : 3 ≤ r) (r11 : r ≤ 11) : Tr (g_pa τ r i x) (g_pa t r i x) := by
  unfold g_pa
  rw [h.2.2.2.2 r r3 r11]
  exact h.sa r3
theorem Tr.sf {τ t : gSt} (h : Tr τ t) {k : Nat} {x : Int32} (k3 : 3 ≤ k) : Tr (g_sf τ k x) (g_sf t k x) := by
  obtain ⟨⟨h0, h1, h2, h3, h4⟩, hh, hg, hc, hr⟩ := h
  refine ⟨⟨?_, ?_, ?_, ?_, ?_⟩, hh, hg, fun j hj => ?_, hr⟩
  · rw [sf_2, if_neg (by omega), sf_2, if_neg (by omega)]; exact h0
  · rw [sf_2, if_neg (by omega), sf_2, if_neg (by omega)]; exact h1
  · rw [sf_2, if_neg (by omega), sf_2, if_neg (by omega)]; exact h2
  · rw [sf_2, sf_2]
    by_cases c : 3 = k
    · rw [if_pos c, if_pos c]
    · rw [if_neg c, if_neg c]; exact h3
  · rw [sf_2, sf_2]
    by_cases c : 4 = k
    · rw [if_pos c, if_pos c]
    · rw [if_neg c, if_neg c]; exact h4
  · rw [sf_2, if_neg (by omega)] at hj
    exact hc j hj
theorem Tr.r {τ t : gSt} (h : Tr τ t) {r : Nat} (r3 : 3 ≤ r) (r11 : r ≤ 11) : t.1 r = τ.1 r := h.2.2.2.2 r r3 r11
theorem Tr.vis {τ t : gSt} (h : Tr τ t) {c : Nat} {x : Int32} : visits t c x ↔ visits τ c x := by
  unfold visits
  rw [h.r (r := 4) (by omega) (by omega), h.r (r := 5) (by omega) (by omega)]
theorem sym_visit {τ t : gSt} {N : Nat} {k x : Int32} (hI : Inv τ) (hI' : Inv t) (hN : 6 < N) (h : Tr τ t) : SymR (f_X10_visit N τ k x) (f_X10_visit N t k x) := by
  have e4 := h.r (r := 4) (by omega) (by omega)
  have e5 := h.r (r := 5) (by omega) (by omega)
  have ed : t.2 4 = τ.2 4 := h.1.2.2.2.2
  have hl := hI.2.2.1.1 k.toInt.toNat
  by_cases c1 : isK k ∧ isC τ x
  · have c1' : isK k ∧ isC t x := ⟨c1.1, h.ctl.mpr c1.2⟩
    by_cases c2 : (τ.1 5 k.toInt.toNat).toInt = 6 ∨ τ.2 4 ≠ 0 ∨ visits τ k.toInt.toNat x
    · have c2' : (t.1 5 k.toInt.toNat).toInt = 6 ∨ t.2 4 ≠ 0 ∨ visits t k.toInt.toNat x := by rw [e5, ed, h.vis]; exact c2
      rw [visit_m (r := some (0, g_sf τ 6 2)) hI hN (fun g => absurd c1 g) (fun _ _ _ => rfl) (fun _ _ g1 g2 g3 => by rcases c2 with h | h | h <;> first | omega | exact absurd g2 h | exact absurd h g3), visit_m (r := some (0, g_sf t 6 2)) hI' hN (fun g => absurd c1' g) (fun _ _ _ => rfl) (fun _ _ g1 g2 g3 => by rcases c2' with h | h | h <;> first | omega | exact absurd g2 h | exact absurd h g3)]
      exact SymR.no h
    · have c2' : ¬ ((t.1 5 k.toInt.toNat).toInt = 6 ∨ t.2 4 ≠ 0 ∨ visits t k.toInt.toNat x) := by rw [e5, ed, h.vis]; exact c2
      rw [visit_m (r := some (τ.1 5 k.toInt.toNat + 1, g_pa (g_pa (g_sf τ 6 0) 4 (6 * k + τ.1 5 k.toInt.toNat) x) 5 k (τ.1 5 k.toInt.toNat + 1))) hI hN (fun g => absurd c1 g) (fun _ _ g => absurd g c2) (fun _ _ _ _ _ => rfl), visit_m (r := some (t.1 5 k.toInt.toNat + 1, g_pa (g_pa (g_sf t 6 0) 4 (6 * k + t.1 5 k.toInt.toNat) x) 5 k (t.1 5 k.toInt.toNat + 1))) hI' hN (fun g => absurd c1' g) (fun _ _ g => absurd g c2') (fun _ _ _ _ _ => rfl), e5]
      exact SymR.yes (((h.six).pa (by omega) (by omega)).pa (by omega) (by omega)) rfl rfl
  · have c1' : ¬ (isK k ∧ isC t x) := fun e => c1 ⟨e.1, h.ctl.mp e.2⟩
    rw [visit_m (r := some (0, g_sf τ 6 1)) hI hN (fun _ => rfl) (fun a b _ => absurd ⟨a, b⟩ c1) (fun a b _ _ _ => absurd ⟨a, b⟩ c1), visit_m (r := some (0, g_sf t 6 1)) hI' hN (fun _ => rfl) (fun a b _ => absurd ⟨a, b⟩ c1') (fun a b _ _ _ => absurd ⟨a, b⟩ c1')]
    exact SymR.no h
theorem enter_m {τ : gSt} {N : Nat} {x c : Int32} {r : Option (Int32 × gSt)} (hI : Inv τ) (h0 : ¬ isK x → some (0, g_sf τ 6 1) = r) (h1 : isK x → ¬ (0 ≤ c.toInt ∧ c.toInt ≤ 7) → some (0, g_sf τ 6 2) = r) (h2 : isK x → (0 ≤ c.toInt ∧ c.toInt ≤ 7) → (24 ≤ (τ.2 3).toInt ∨ τ.2 4 ≠ 0 ∨ (τ.1 5 x.toInt.toNat).toInt < 2) → some (0, g_sf τ 6 3) = r) (h3 : isK x → (0 ≤ c.toInt ∧ c.toInt ≤ 7) → (τ.2 3).toInt < 24 → τ.2 4 = 0 → 2 ≤ (τ.1 5 x.toInt.toNat).toInt → some (τ.2 3 + 1 - 1, g_sf (g_pa (g_pa (g_sf τ 6 0) 6 (τ.2 3) x) 7 (τ.2 3) c) 3 (τ.2 3 + 1)) = r) : f_X10_enter N τ x c = r := by
  have iE := hI.2.2.2.1
  have hn0 := iE.1
  unfold f_X10_enter
  simp only [gJoin1, gJoin0]
  by_cases h : isK x
  · have h3' := h.1
    have h4 := h.2
    simp only [klass_yes h, if_neg one_ne]
    have eg : g_ga τ 5 x = τ.1 5 x.toInt.toNat := rfl
    by_cases hc : 0 ≤ c.toInt ∧ c.toInt ≤ 7
    · simp only [in_yes (x := c) (a := 0) (b := 7) (by rw [tl0]; exact hc.1) (by rw [tl7]; exact hc.2)]
      by_cases hn : 24 ≤ τ.2 3
      · simp only [if_pos hn, asked3_2 one_ne one_ne, if_true]
        rw [tle, tl24] at hn
        exact h2 h hc (Or.inl hn)
      · simp only [if_neg hn]
        rw [tle, tl24] at hn
        by_cases hd : τ.2 4 = 0
        · simp only [if_pos hd]
          rw [if_neg (c := x < 0 ∨ 5 ≤ x.toNatClampNeg) (by rw [tlt, tl0, tcl]; omega), eg]
          by_cases hl : τ.1 5 x.toInt.toNat < 2
          · simp only [if_pos hl, asked3_2 one_ne one_ne, if_true]
            rw [tlt, tl2] at hl
            exact h2 h hc (Or.inr (Or.inr hl))
          · simp only [if_neg hl, asked3_3 one_ne one_ne one_ne, if_neg one_ne]
            rw [tlt, tl2] at hl
            have E3 : (g_sf τ 6 0).2 3 = τ.2 3 := rfl
            have E4 : (g_pa (g_sf τ 6 0) 6 (τ.2 3) x).2 3 = τ.2 3 := rfl
            have E5 : (g_pa (g_pa (g_sf τ 6 0) 6 (τ.2 3) x) 7 (τ.2 3) c).2 3 = τ.2 3 := rfl
            simp only [E3, E4, E5]
            rw [if_neg (by rw [tlt, tl0, tcl]; omega), if_neg (by rw [tlt, tl0, tcl]; omega)]
            exact h3 h hc (by omega) hd (by omega)
        · simp only [if_neg hd, asked3_2 one_ne one_ne, if_true]
          exact h2 h hc (Or.inr (Or.inl hd))
    · simp only [in_no (x := c) (a := 0) (b := 7) (by rw [tl0, tl7]; omega), asked3_1 one_ne, if_true]
      rw [if_neg (c := x < 0 ∨ 5 ≤ x.toNatClampNeg) (by rw [tlt, tl0, tcl]; omega)]
      simp only [ite_self]
      exact h1 h hc
  · simp only [klass_no h, if_true, asked3_0]
    exact h0 h
theorem sym_enter {τ t : gSt} {N : Nat} {x c : Int32} (hI : Inv τ) (hI' : Inv t) (h : Tr τ t) : SymR (f_X10_enter N τ x c) (f_X10_enter N t x c) := by
  have e5 := h.r (r := 5) (by omega) (by omega)
  have ed : t.2 4 = τ.2 4 := h.1.2.2.2.2
  have en : t.2 3 = τ.2 3 := h.1.2.2.2.1
  by_cases c1 : isK x
  · by_cases c2 : 0 ≤ c.toInt ∧ c.toInt ≤ 7
    · by_cases c3 : 24 ≤ (τ.2 3).toInt ∨ τ.2 4 ≠ 0 ∨ (τ.1 5 x.toInt.toNat).toInt < 2
      · have c3' : 24 ≤ (t.2 3).toInt ∨ t.2 4 ≠ 0 ∨ (t.1 5 x.toInt.toNat).toInt < 2 := by rw [e5, ed, en]; exact c3
        rw [enter_m (r := some (0, g_sf τ 6 3)) hI (fun g => absurd c1 g) (fun _ g => absurd c2 g) (fun _ _ _ => rfl) (fun _ _ g1 g2 g3 => by rcases c3 with h | h | h <;> first | omega | exact absurd g2 h), enter_m (r := some (0, g_sf t 6 3)) hI' (fun g => absurd c1 g) (fun _ g => absurd c2 g) (fun _ _ _ => rfl) (fun _ _ g1 g2 g3 => by rcases c3' with h | h | h <;> first | omega | exact absurd g2 h)]
        exact SymR.no h
      · have c3' : ¬ (24 ≤ (t.2 3).toInt ∨ t.2 4 ≠ 0 ∨ (t.1 5 x.toInt.toNat).toInt < 2) := by rw [e5, ed, en]; exact c3
        rw [enter_m (r := some (τ.2 3 + 1 - 1, g_sf (g_pa (g_pa (g_sf τ 6 0) 6 (τ.2 3) x) 7 (τ.2 3) c) 3 (τ.2 3 + 1))) hI (fun g => absurd c1 g) (fun _ g => absurd c2 g) (fun _ _ g => absurd g c3) (fun _ _ _ _ _ => rfl), enter_m (r := some (t.2 3 + 1 - 1, g_sf (g_pa (g_pa (g_sf t 6 0) 6 (t.2 3) x) 7 (t.2 3) c) 3 (t.2 3 + 1))) hI' (fun g => absurd c1 g) (fun _ g => absurd c2 g) (fun _ _ g => absurd g c3') (fun _ _ _ _ _ => rfl), en]
        exact SymR.yes ((((h.six).pa (by omega) (by omega)).pa (by omega) (by omega)).sf (by omega)) rfl rfl
    · rw [enter_m (r := some (0, g_sf τ 6 2)) hI (fun g => absurd c1 g) (fun _ _ => rfl) (fun _ g _ => absurd g c2) (fun _ g _ _ _ => absurd g c2), enter_m (r := some (0, g_sf t 6 2)) hI' (fun g => absurd c1 g) (fun _ _ => rfl) (fun _ g _ => absurd g c2) (fun _ g _ _ _ => absurd g c2)]
      exact SymR.no h
  · rw [enter_m (r := some (0, g_sf τ 6 1)) hI (fun _ => rfl) (fun g _ => absurd g c1) (fun g _ _ => absurd g c1) (fun g _ _ _ _ => absurd g c1), enter_m (r := some (0, g_sf t 6 1)) hI' (fun _ => rfl) (fun g _ => absurd g c1) (fun g _ _ => absurd g c1) (fun g _ _ _ _ => absurd g c1)]
    exact SymR.no h
theorem Tr.ends {τ t : gSt} (h : Tr τ t) {c : Nat} {x : Int32} : endsOne t x c ↔ endsOne τ x c := by
  unfold endsOne
  rw [h.r (r := 4) (by omega) (by omega), h.r (r := 5) (by omega) (by omega)]
theorem sym_fail {τ t : gSt} {N : Nat} {x z : Int32} (hI : Inv τ) (hI' : Inv t) (hN : 5 < N) (h : Tr τ t) : SymR (f_X10_fail N τ x z) (f_X10_fail N t x z) := by
  have e3 := h.r (r := 3) (by omega) (by omega)
  have hC := hI.2.1
  have hC' := hI'.2.1
  by_cases c1 : isC τ x
  · have c1' := h.ctl.mpr c1
    by_cases c2 : ∃ c : Nat, c < 5 ∧ endsOne τ x c
    · have c2' : ∃ c : Nat, c < 5 ∧ endsOne t x c := by
        obtain ⟨c, h1, h2⟩ := c2
        exact ⟨c, h1, h.ends.mpr h2⟩
      rw [fail_m (r := some (0, g_sf τ 6 2)) hI hN (fun _ => by rw [ctl_yes hC c1, asked2_1 one_ne]) (fun _ g => absurd c2 g), fail_m (r := some (0, g_sf t 6 2)) hI' hN (fun _ => by rw [ctl_yes hC' c1', asked2_1 one_ne]) (fun _ g => absurd c2' g)]
      exact SymR.no h
    · have c2' : ¬ ∃ c : Nat, c < 5 ∧ endsOne t x c := by
        rintro ⟨c, h1, h2⟩
        exact c2 ⟨c, h1, h.ends.mp h2⟩
      rw [fail_m (r := some ((g_ga (g_sf τ 6 0) 3 x) &&& 1, g_pa (g_sf τ 6 0) 3 x (z &&& 1))) hI hN (fun g => g.elim (fun g => absurd c1 g) (fun g => absurd g c2)) (fun _ _ => rfl), fail_m (r := some ((g_ga (g_sf t 6 0) 3 x) &&& 1, g_pa (g_sf t 6 0) 3 x (z &&& 1))) hI' hN (fun g => g.elim (fun g => absurd c1' g) (fun g => absurd g c2')) (fun _ _ => rfl)]
      refine SymR.yes ((h.six).pa (by omega) (by omega)) rfl ?_
      show τ.1 3 _ &&& 1 = t.1 3 _ &&& 1
      rw [e3]
  · have c1' : ¬ isC t x := fun e => c1 (h.ctl.mp e)
    rw [fail_m (r := some (0, g_sf τ 6 1)) hI hN (fun _ => by rw [ctl_no hC c1, asked2_0]) (fun g => absurd g c1), fail_m (r := some (0, g_sf t 6 1)) hI' hN (fun _ => by rw [ctl_no hC' c1', asked2_0]) (fun g => absurd g c1')]
    exact SymR.no h
theorem sym_control {τ t : gSt} {N : Nat} {x y : Int32} (hI : Inv τ) (hI' : Inv t) (hN : 12 < N) (h : Tr τ t) : SymR (f_X10_control N τ x y) (f_X10_control N t y x) := by
  have hC := hI.2.1
  have en : t.2 2 = τ.2 2 := h.1.2.2.1
  have hc1 := hC.1
  have hc2 := hC.2.1
  by_cases c1 : onMap τ x y
  · have c1' := h.map.mpr c1
    have hn := num_in hI.1 c1
    have hn' := num_in hI'.1 c1'
    obtain ⟨k, k144, e1, e2, -, -⟩ := num_tp hI.1 hI'.1 h c1
    have hst : stands t (12 * x + y) ↔ stands τ (12 * y + x) := by
      unfold stands
      rw [en]
      refine ⟨?_, ?_⟩
      · rintro ⟨c, g1, g2⟩
        refine ⟨c, g1, ?_⟩
        have g3 := h.2.2.2.1 c g1
        have g4 := hC.2.2.1 c g1
        have b1 := hI.1.2.1
        have b2 := hI.1.2.2.2.1
        rw [g2] at g3
        have g5 : tp (τ.1 2 c).toInt.toNat = tp k := by omega
        have g6 := tp_inj (j := (τ.1 2 c).toInt.toNat) (by omega) k144 g5
        rw [teq]
        omega
      · rintro ⟨c, g1, g2⟩
        refine ⟨c, g1, ?_⟩
        have g3 := h.2.2.2.1 c g1
        rw [g2, e1] at g3
        rw [teq]
        omega
    have hfb : t.1 1 (12 * x + y).toInt.toNat = τ.1 1 (12 * y + x).toInt.toNat := by rw [e1, e2, h.2.2.1 k k144]
    by_cases c2 : (τ.2 2).toInt = 12 ∨ τ.1 1 (12 * y + x).toInt.toNat = 4 ∨ stands τ (12 * y + x)
    · have c2' : (t.2 2).toInt = 12 ∨ t.1 1 (12 * x + y).toInt.toNat = 4 ∨ stands t (12 * x + y) := by rw [en, hfb, hst]; exact c2
      rw [control_m (r := some (0, g_sf τ 6 2)) hI hN (fun g => absurd c1 g) (fun _ _ => rfl) (fun _ g1 g2 g3 => by rcases c2 with h | h | h <;> first | omega | exact absurd h g2 | exact absurd h g3), control_m (r := some (0, g_sf t 6 2)) hI' hN (fun g => absurd c1' g) (fun _ _ => rfl) (fun _ g1 g2 g3 => by rcases c2' with h | h | h <;> first | omega | exact absurd h g2 | exact absurd h g3)]
      exact SymR.no h
    · have c2' : ¬ ((t.2 2).toInt = 12 ∨ t.1 1 (12 * x + y).toInt.toNat = 4 ∨ stands t (12 * x + y)) := by rw [en, hfb, hst]; exact c2
      rw [control_m (r := some (τ.2 2 + 1 - 1, g_sf (g_pa (g_sf τ 6 0) 2 (τ.2 2) (12 * y + x)) 2 (τ.2 2 + 1))) hI hN (fun g => absurd c1 g) (fun _ g => absurd g c2) (fun _ _ _ _ => rfl), control_m (r := some (t.2 2 + 1 - 1, g_sf (g_pa (g_sf t 6 0) 2 (t.2 2) (12 * x + y)) 2 (t.2 2 + 1))) hI' hN (fun g => absurd c1' g) (fun _ g => absurd g c2') (fun _ _ _ _ => rfl), en]
      refine SymR.yes ?_ rfl rfl
      obtain ⟨⟨h0, h1, h2, h3, h4⟩, hh, hg, hc, hr⟩ := h
      have ep : (τ.2 2 + 1).toInt = (τ.2 2).toInt + 1 := by rw [tadd (by rw [tl1]; omega), tl1]
      refine ⟨⟨h0, h1, rfl, h3, h4⟩, hh, hg, fun j hj => ?_, fun r r3 r11 => ?_⟩
      · have hj : (j : Int) < (τ.2 2 + 1).toInt := hj
        rw [ep] at hj
        show (upd (t.1 2) (τ.2 2).toInt.toNat (12 * x + y) j).toInt = tp (upd (τ.1 2) (τ.2 2).toInt.toNat (12 * y + x) j).toInt.toNat
        rw [upd_at, upd_at]
        by_cases c : j = (τ.2 2).toInt.toNat
        · rw [if_pos c, if_pos c, e1]
          omega
        · rw [if_neg c, if_neg c]
          exact hc j (by omega)
      · show (if r = 2 then _ else t.1 r) = (if r = 2 then _ else τ.1 r)
        rw [if_neg (by omega), if_neg (by omega)]
        exact hr r r3 r11
  · have c1' : ¬ onMap t y x := fun e => c1 (h.map.mp e)
    rw [control_m (r := some (0, g_sf τ 6 1)) hI hN (fun _ => rfl) (fun g _ => absurd g c1) (fun g _ _ _ => absurd g c1), control_m (r := some (0, g_sf t 6 1)) hI' hN (fun _ => rfl) (fun g _ => absurd g c1') (fun g _ _ _ => absurd g c1')]
    exact SymR.no h
