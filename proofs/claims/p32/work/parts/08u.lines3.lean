/-! ===== pure: lines, rings, longest ===== -/
theorem count_gen {T : Type} {K : Int32 → Option T} {N : Nat} {p : Nat → Prop} {b : (Int32 → Int32 → Option T) → Int32 → Int32 → Option T} (hN : 288 < N) (b0 : ∀ self x v, 288 ≤ v → b self x v = K x) (b1 : ∀ self x (v : Int32), 0 ≤ v.toInt → v.toInt < 288 → b self x v = self (cif (p v.toInt.toNat) (x + 1) x) (v + 1)) : gLoop2 b N 0 0 = K (Int32.ofNat (cnt p 288)) := by
  refine gLoop2_eq (fun m x v => (0 ≤ v.toInt ∧ v.toInt ≤ 288) ∧ (m : Int) = 288 - v.toInt ∧ x = Int32.ofNat (cnt p v.toInt.toNat)) ?_ N 288 0 0 hN ⟨by rw [tl0]; omega, by rw [tl0]; rfl, rfl⟩
  intro m x v self ⟨hv, hm, hx⟩ ih
  by_cases c : 288 ≤ v
  · rw [b0 self x v c, hx]
    rw [tle, tl288] at c
    rw [show v.toInt.toNat = 288 by omega]
  · rw [tle, tl288] at c
    have e1 := inc1 (v := v) (n := 288) (by omega) (by omega)
    rw [b1 self x v hv.1 (by omega)]
    refine ih (m - 1) _ _ (by omega) ⟨by rw [e1]; omega, by rw [e1]; omega, ?_⟩
    rw [e1, show (v.toInt + 1).toNat = v.toInt.toNat + 1 by omega, hx]
    have := cnt_le (p := p) v.toInt.toNat
    by_cases h : p v.toInt.toNat
    · rw [cif_pos h, cnt_pos h, ofn_one (by omega)]
    · rw [cif_neg h, cnt_neg h]
theorem most_gen {T : Type} {K : Int32 → T} {N : Nat} {g : Nat → Int32} {b : (Int32 → Int32 → Option T) → Int32 → Int32 → Option T} (hN : 288 < N) (b0 : ∀ self x v, 288 ≤ v → b self x v = some (K x)) (b1 : ∀ self x (v : Int32), 0 ≤ v.toInt → v.toInt < 288 → ∃ y, y.toInt = max x.toInt (g v.toInt.toNat).toInt ∧ b self x v = self y (v + 1)) : Ok (fun t => ∃ x, t = K x ∧ Most g x 288) (gLoop2 b N 0 0) := by
  refine gLoop2_ok (fun m x v => (0 ≤ v.toInt ∧ v.toInt ≤ 288) ∧ (m : Int) = 288 - v.toInt ∧ Most g x v.toInt.toNat) ?_ N 288 0 0 hN ⟨by rw [tl0]; omega, by rw [tl0]; rfl, by rw [tl0]; omega, fun r hr => by rw [tl0] at hr; exact absurd hr (by omega), Or.inl rfl⟩
  intro m x v self ⟨hv, hm, hx0, hx1, hx2⟩ ih
  by_cases c : 288 ≤ v
  · rw [b0 self x v c]
    rw [tle, tl288] at c
    rw [show v.toInt.toNat = 288 by omega] at hx1 hx2
    exact Ok.some ⟨x, rfl, hx0, hx1, hx2⟩
  · rw [tle, tl288] at c
    have e1 := inc1 (v := v) (n := 288) (by omega) (by omega)
    obtain ⟨y, hy, e⟩ := b1 self x v hv.1 (by omega)
    rw [e]
    refine ih (m - 1) _ _ (by omega) ⟨by rw [e1]; omega, by rw [e1]; omega, by omega, fun r hr => ?_, ?_⟩
    · rw [e1] at hr
      by_cases er : r = v.toInt.toNat
      · rw [er]; omega
      · have := hx1 r (by omega); omega
    · rw [e1]
      by_cases q : (g v.toInt.toNat).toInt ≤ x.toInt
      · have ey : y = x := by rw [teq]; omega
        rw [ey]
        rcases hx2 with h | ⟨r, h1, h2⟩
        · exact Or.inl h
        · exact Or.inr ⟨r, by omega, h2⟩
      · exact Or.inr ⟨v.toInt.toNat, by omega, by rw [teq]; omega⟩
theorem isl {lv : Int32} (h : 1 ≤ lv.toInt ∧ lv.toInt ≤ 255) : f_X10_isLevel lv = 1 := by
  unfold f_X10_isLevel
  rw [in_yes (by rw [tl1]; exact h.1) (by rw [tl255]; exact h.2)]
  rfl
theorem isl_no {lv : Int32} (h : ¬ (1 ≤ lv.toInt ∧ lv.toInt ≤ 255)) : f_X10_isLevel lv = 0 := by
  unfold f_X10_isLevel
  rw [in_no (by rw [tl1, tl255]; omega)]
  rfl
theorem pos_ofn {n : Nat} (h : n ≤ 288) : 0 < (Int32.ofNat n).toInt ↔ 0 < n := by
  rw [tnat (by omega)]
  omega
/-- the sizes of the lines, under any naming -/
theorem size_ex {τ : gSt} {lv : Int32} {f : Nat → Nat} {r : Nat} : 0 < (Int32.ofNat (cnt (fun i => gapP τ lv i ∧ f i = r) 288)).toInt ↔ ∃ i, i < 288 ∧ gapP τ lv i ∧ f i = r := by
  rw [pos_ofn (cnt_le 288)]
  exact ⟨fun h => cnt_ex h, fun ⟨i, h1, h2⟩ => cnt_ne h1 h2⟩
theorem Rel.sx {σ τ s t : gSt} (hR : Rel σ τ) (h : Kc σ s) (g : Km τ t) : Rel s t := hR.keep h g
theorem ml_lt {τ s : gSt} {lv : Int32} (h : MF τ lv s) {i : Nat} (hg : gapP τ lv i) : mStar τ lv i < 288 := ((h.2.1 i (gapP_lt hg)).1 hg).2
theorem need_lv {lv : Int32} (h : 1 ≤ lv.toInt ∧ lv.toInt ≤ 255) : f_X9_needRange lv 1 255 = 0 := need_yes (by rw [tl1]; exact h.1) (by rw [tl255]; exact h.2)
theorem need_lv_no {lv : Int32} (h : ¬ (1 ≤ lv.toInt ∧ lv.toInt ≤ 255)) : f_X9_needRange lv 1 255 = 2 := need_no (by rw [tl1, tl255]; omega)
theorem gapP_six {τ : gSt} {lv x : Int32} : gapP (g_sf τ 6 x) lv = gapP τ lv := rfl
/-- the two counts of a line's names, of the lines that have Q -/
theorem names_eq {τ s : gSt} {lv : Int32} {f : Nat → Nat} {Q : Nat → Prop} (hM : MF τ lv s) (hf : ∀ i, gapP τ lv i → f i < 288) (hK : Kern (gapP τ lv) f (mStar τ lv)) (hQ : ∀ i j, gapP τ lv i → gapP τ lv j → mStar τ lv i = mStar τ lv j → (Q i ↔ Q j)) : cnt (fun r => ∃ i, i < 288 ∧ gapP τ lv i ∧ f i = r ∧ Q i) 288 = cnt (fun r => ∃ i, i < 288 ∧ gapP τ lv i ∧ mStar τ lv i = r ∧ Q i) 288 :=
  classes2 (fun i _ hg => hf i hg) (fun i _ hg => ml_lt hM hg) (fun i j _ _ h1 h2 => hK i j h1 h2) (fun i j _ _ h1 h2 h3 => hQ i j h1 h2 ((hK i j h1 h2).mp h3))
theorem owe_lines {N : Nat} (hN : 288 < N) : Owe_lines N := by
  intro σ τ lv hR
  unfold f_X9_lines f_X10_lines
  by_cases h : 1 ≤ lv.toInt ∧ lv.toInt ≤ 255
  · rw [need_lv h, if_pos rfl, isl h, asked1, if_neg (show ¬ ((1 : Int32), g_sf τ 6 0).1 = 0 from one_ne)]
    have hR6 : Rel σ (g_sf τ 6 0) := hR.six
    obtain ⟨s, hs, h1, f, h2, h3, h4⟩ := trace_c hR6 hN h
    obtain ⟨t, ht, hM⟩ := finds_m hR6.2.1 hN h
    rw [hs, Option.bind_some, lineCount_c hN, Option.bind_some]
    show Agr _ _ _ _ ((f_X10_findsLines N (g_sf τ 6 0) lv).bind _)
    rw [ht, Option.bind_some, count_gen (K := fun x => some (x, t)) (p := fun r => 0 < (t.1 13 r).toInt) hN (fun self x v h => if_pos h) (fun self x v g1 g2 => ?_)]
    · refine Agr.yes (hR6.sx h1.1 hM.1) (Or.inl rfl) (hM.1.2 6 (by decide)) (congrArg Int32.ofNat ?_)
      have e1 : cnt (fun r => 0 < (s.1 3 r).toInt) 288 = cnt (fun r => ∃ i, i < 288 ∧ gapP (g_sf τ 6 0) lv i ∧ f i = r ∧ True) 288 := cnt_congr 288 (fun r hr => by
        rw [(h4 r hr).1, size_ex]
        exact ⟨fun ⟨i, a, b, c⟩ => ⟨i, a, b, c, trivial⟩, fun ⟨i, a, b, c, _⟩ => ⟨i, a, b, c⟩⟩)
      have e2 : cnt (fun r => 0 < (t.1 13 r).toInt) 288 = cnt (fun r => ∃ i, i < 288 ∧ gapP (g_sf τ 6 0) lv i ∧ mStar (g_sf τ 6 0) lv i = r ∧ True) 288 := cnt_congr 288 (fun r hr => by
        rw [hM.2.2 r hr, size_ex]
        exact ⟨fun ⟨i, a, b, c⟩ => ⟨i, a, b, c, trivial⟩, fun ⟨i, a, b, c, _⟩ => ⟨i, a, b, c⟩⟩)
      rw [e1, e2]
      exact (names_eq (Q := fun _ => True) hM h2 h3 (fun _ _ _ _ _ => Iff.rfl)).symm
    · rw [if_neg (by rw [tle, tl288]; omega), if_neg (by rw [tlt, tl0, tcl]; omega)]
      simp only [gJoin1]
      have ev : g_ga t 13 v = t.1 13 v.toInt.toNat := rfl
      rw [ev]
      by_cases c : t.1 13 v.toInt.toNat ≤ 0
      · rw [if_pos c, cif_neg (by rw [tle, tl0] at c; omega), Int32.add_zero]
      · rw [if_neg c, cif_pos (by rw [tle, tl0] at c; omega)]
  · rw [need_lv_no h, if_neg (by decide), isl_no h, asked0, if_pos rfl]
    exact Agr.no hR (by decide) (Or.inr rfl) rfl
theorem owe_longest {N : Nat} (hN : 288 < N) : Owe_longest N := by
  intro σ τ lv hR
  unfold f_X9_longest f_X10_longest
  by_cases h : 1 ≤ lv.toInt ∧ lv.toInt ≤ 255
  · rw [need_lv h, if_pos rfl, isl h, asked1, if_neg (show ¬ ((1 : Int32), g_sf τ 6 0).1 = 0 from one_ne)]
    have hR6 : Rel σ (g_sf τ 6 0) := hR.six
    obtain ⟨s, hs, h1, f, h2, h3, h4⟩ := trace_c hR6 hN h
    obtain ⟨t, ht, hM⟩ := finds_m hR6.2.1 hN h
    obtain ⟨x, hx, m1, m2, m3⟩ := mostGaps_c (s := s) hN
    rw [hs, Option.bind_some, hx, Option.bind_some]
    show Agr _ _ _ _ ((f_X10_findsLines N (g_sf τ 6 0) lv).bind _)
    rw [ht, Option.bind_some]
    obtain ⟨u, hu, y, hy, n1, n2, n3⟩ := most_gen (K := fun x => (x, t)) (g := t.1 13) (N := N) (b := fun (self20 : Int32 → Int32 → Option (Int32 × gSt)) (v2_20 : Int32) (v3_20 : Int32) =>
      if 288 ≤ v3_20 then
        some (v2_20, t)
      else
        if v3_20 < 0 ∨ 288 ≤ v3_20.toNatClampNeg then none else
        gJoin1 (fun (w0_47 : Int32) =>
            self20 w0_47 (v3_20 + 1)) (fun j47 =>
          if g_ga t 13 v3_20 ≤ v2_20 then
            j47 v2_20
          else
            if v3_20 < 0 ∨ 288 ≤ v3_20.toNatClampNeg then none else
            j47 (g_ga t 13 v3_20))) hN (fun self x v h => if_pos h) (fun self x v g1 g2 => by
        have gv : ¬ (v < 0 ∨ 288 ≤ v.toNatClampNeg) := by rw [tlt, tl0, tcl]; omega
        have ev : g_ga t 13 v = t.1 13 v.toInt.toNat := rfl
        rw [if_neg (by rw [tle, tl288]; omega), if_neg gv]
        simp only [gJoin1]
        rw [ev]
        by_cases c : t.1 13 v.toInt.toNat ≤ x
        · rw [if_pos c]
          rw [tle] at c
          exact ⟨x, by omega, rfl⟩
        · rw [if_neg c, if_neg gv]
          rw [tle] at c
          exact ⟨_, by omega, rfl⟩)
    subst hy
    rw [hu]
    refine Agr.yes (hR6.sx h1.1 hM.1) (Or.inl rfl) (hM.1.2 6 (by decide)) ?_
    show y = x
    have same : ∀ i, gapP (g_sf τ 6 0) lv i → s.1 3 (f i) = t.1 13 (mStar (g_sf τ 6 0) lv i) := fun i hi => by
      rw [(h4 _ (h2 i hi)).1, hM.2.2 _ (ml_lt hM hi)]
      exact congrArg Int32.ofNat (cnt_congr 288 (fun j _ => ⟨fun g => ⟨g.1, (h3 j i g.1 hi).mp g.2⟩, fun g => ⟨g.1, (h3 j i g.1 hi).mpr g.2⟩⟩))
    have le1 : x.toInt ≤ y.toInt := by
      rcases m3 with e | ⟨r, hr, e⟩
      · rw [e, tl0]; exact n1
      · by_cases hp : 0 < (s.1 3 r).toInt
        · rw [(h4 r hr).1, size_ex] at hp
          obtain ⟨i, hi, hg, he⟩ := hp
          rw [e, ← he, same i hg]
          exact n2 _ (ml_lt hM hg)
        · rw [e]; omega
    have le2 : y.toInt ≤ x.toInt := by
      rcases n3 with e | ⟨r, hr, e⟩
      · rw [e, tl0]; exact m1
      · by_cases hp : 0 < (t.1 13 r).toInt
        · rw [hM.2.2 r hr, size_ex] at hp
          obtain ⟨i, hi, hg, he⟩ := hp
          rw [e, ← he, ← same i hg]
          exact m2 _ (h2 i hg)
        · rw [e]; omega
    rw [teq]
    omega
  · rw [need_lv_no h, if_neg (by decide), isl_no h, asked0, if_pos rfl]
    exact Agr.no hR (by decide) (Or.inr rfl) rfl
