/-! ===== pure: rings ===== -/
def ins (τ : gSt) (i : Nat) : Prop := (i < 144 ∧ 1 ≤ i / 12 ∧ ((i / 12 : Nat) : Int) + 2 ≤ (τ.2 1).toInt) ∨ (144 ≤ i ∧ 1 ≤ (i - 144) % 12 ∧ (((i - 144) % 12 : Nat) : Int) + 2 ≤ (τ.2 0).toInt)
theorem ins_border {τ : gSt} {lv : Int32} {i : Nat} (h : gapP τ lv i) : ins τ i ↔ ¬ border τ i := by
  unfold ins border
  rcases h with h | h <;> omega
theorem inside_m {τ s : gSt} {v : Int32} (hT : InvT τ) (hM : Mp τ s) (h0 : 0 ≤ v.toInt) (h1 : v.toInt < 288) : f_X10_isInside s v = cif (ins τ v.toInt.toNat) 1 0 := by
  have m2 : s.2 0 = τ.2 0 := hM.2.2.1
  have m3 : s.2 1 = τ.2 1 := hM.2.2.2
  obtain ⟨w1, w2, w3, w4, -⟩ := hT
  have e144 := mod144 h0
  have ed := div12 (v := v - v / 144 * 144) (by rw [e144]; omega)
  have em := mod12 (v := v - v / 144 * 144) (by rw [e144]; omega)
  rw [e144] at ed em
  unfold f_X10_isInside
  rw [m2, m3]
  have ew : (τ.2 0 - 2).toInt = (τ.2 0).toInt - 2 := by rw [tsub (by rw [tl2]; omega), tl2]
  have eh : (τ.2 1 - 2).toInt = (τ.2 1).toInt - 2 := by rw [tsub (by rw [tl2]; omega), tl2]
  by_cases c : 144 ≤ v
  · rw [if_pos c]
    rw [tle, tl144] at c
    by_cases q : ins τ v.toInt.toNat
    · rw [cif_pos q, in_yes (by rw [tl1, em]; unfold ins at q; omega) (by rw [ew, em]; unfold ins at q; omega)]
      rfl
    · rw [cif_neg q, in_no (by rw [tl1, ew, em]; unfold ins at q; omega)]
      rfl
  · rw [if_neg c]
    rw [tle, tl144] at c
    by_cases q : ins τ v.toInt.toNat
    · rw [cif_pos q, in_yes (by rw [tl1, ed]; unfold ins at q; omega) (by rw [eh, ed]; unfold ins at q; omega)]
      rfl
    · rw [cif_neg q, in_no (by rw [tl1, eh, ed]; unfold ins at q; omega)]
      rfl
/-- the reference's flag: all gaps of the line r are of two squares -/
theorem flag_m {T : Type} {τ t : gSt} {N : Nat} {r f0 : Int32} {R : Int32 → Option T} (hT : InvT τ) (hM : Mp τ t) (hN : 288 < N) (hf0 : f0 = 0 ∨ f0 = 1) : gLoop2 (fun (self46 : Int32 → Int32 → Option T) (v4_46 : Int32) (v5_46 : Int32) =>
              if 288 ≤ v5_46 then
                if v4_46 = 0 then R 0 else R 1
              else
                if v4_46 = 0 then
                  self46 0 (v5_46 + 1)
                else
                    if v5_46 < 0 ∨ 288 ≤ v5_46.toNatClampNeg then none else
                      if g_ga t 12 v5_46 = r then
                        if f_X10_isInside t v5_46 = 0 then
                          self46 0 (v5_46 + 1)
                        else
                          self46 1 (v5_46 + 1)
                      else
                        self46 1 (v5_46 + 1)) N f0 0 = R (cif (f0 = 1 ∧ ∀ i, i < 288 → t.1 12 i = r → ins τ i) 1 0) := by
  refine gLoop2_eq (fun m f v => (0 ≤ v.toInt ∧ v.toInt ≤ 288) ∧ (m : Int) = 288 - v.toInt ∧ ((f = 1 ∧ f0 = 1 ∧ ∀ i : Nat, (i : Int) < v.toInt → t.1 12 i = r → ins τ i) ∨ (f = 0 ∧ ¬ (f0 = 1 ∧ ∀ i, i < 288 → t.1 12 i = r → ins τ i)))) ?_ N 288 f0 0 hN ⟨by rw [tl0]; omega, by rw [tl0]; rfl, ?_⟩
  · intro m f v self ⟨hv, hm, hf⟩ ih
    by_cases c : 288 ≤ v
    · rw [if_pos c]
      rw [tle, tl288] at c
      rcases hf with ⟨rfl, h1, h2⟩ | ⟨rfl, h⟩
      · rw [if_neg one_ne, cif_pos ⟨h1, fun i hi => h2 i (by omega)⟩]
      · rw [if_pos rfl, cif_neg h]
    · rw [if_neg c]
      rw [tle, tl288] at c
      have e1 := inc1 (v := v) (n := 288) (by omega) (by omega)
      rcases hf with ⟨rfl, h1, h2⟩ | ⟨rfl, h⟩
      · rw [if_neg one_ne, if_neg (by rw [tlt, tl0, tcl]; omega), inside_m hT hM hv.1 (by omega)]
        have ev : g_ga t 12 v = t.1 12 v.toInt.toNat := rfl
        rw [ev]
        have go : (t.1 12 v.toInt.toNat = r → ins τ v.toInt.toNat) → self 1 (v + 1) = R (cif (f0 = 1 ∧ ∀ i, i < 288 → t.1 12 i = r → ins τ i) 1 0) := fun g => ih (m - 1) 1 (v + 1) (by omega) ⟨by rw [e1]; omega, by rw [e1]; omega, Or.inl ⟨rfl, h1, fun i hi => by
          rw [e1] at hi
          by_cases e : i = v.toInt.toNat
          · rw [e]; exact g
          · exact h2 i (by omega)⟩⟩
        by_cases q : t.1 12 v.toInt.toNat = r
        · rw [if_pos q]
          by_cases q2 : ins τ v.toInt.toNat
          · rw [cif_pos q2, if_neg one_ne]
            exact go (fun _ => q2)
          · rw [cif_neg q2, if_pos rfl]
            exact ih (m - 1) 0 (v + 1) (by omega) ⟨by rw [e1]; omega, by rw [e1]; omega, Or.inr ⟨rfl, fun g => q2 (g.2 _ (by omega) q)⟩⟩
        · rw [if_neg q]
          exact go (fun g => absurd g q)
      · rw [if_pos rfl]
        exact ih (m - 1) 0 (v + 1) (by omega) ⟨by rw [e1]; omega, by rw [e1]; omega, Or.inr ⟨rfl, h⟩⟩
  · rcases hf0 with h | h
    · exact Or.inr ⟨h, fun g => absurd (g.1.symm.trans h) one_ne⟩
    · exact Or.inl ⟨h, h, fun i hi => by rw [tl0] at hi; omega⟩
theorem owe_rings {N : Nat} (hN : 288 < N) : Owe_rings N := by
  intro σ τ lv hR
  unfold f_X9_rings f_X10_rings
  by_cases h : 1 ≤ lv.toInt ∧ lv.toInt ≤ 255
  · rw [need_lv h, if_pos rfl, isl h, asked1, if_neg (show ¬ ((1 : Int32), g_sf τ 6 0).1 = 0 from one_ne)]
    have hR6 : Rel σ (g_sf τ 6 0) := hR.six
    obtain ⟨s, hs, h1, f, h2, h3, h4⟩ := trace_c hR6 hN h
    obtain ⟨t, ht, hM⟩ := finds_m hR6.2.1 hN h
    rw [hs, Option.bind_some, ringCount_c hN, Option.bind_some]
    show Agr _ _ _ _ ((f_X10_findsLines N (g_sf τ 6 0) lv).bind _)
    rw [ht, Option.bind_some, count_gen (K := fun x => some (x, t)) (p := fun r => 0 < (t.1 13 r).toInt ∧ ∀ i, i < 288 → t.1 12 i = Int32.ofNat r → ins (g_sf τ 6 0) i) hN (fun self x v h => if_pos h) (fun self x v g1 g2 => ?_)]
    · refine Agr.yes (hR6.sx h1.1 hM.1) (Or.inl rfl) (hM.1.2 6 (by decide)) (congrArg Int32.ofNat ?_)
      have e1 : cnt (fun r => 0 < (s.1 3 r).toInt ∧ s.1 4 r = 0) 288 = cnt (fun r => ∃ i, i < 288 ∧ gapP (g_sf τ 6 0) lv i ∧ f i = r ∧ ∀ j, gapP (g_sf τ 6 0) lv j → mStar (g_sf τ 6 0) lv j = mStar (g_sf τ 6 0) lv i → ¬ border (g_sf τ 6 0) j) 288 := cnt_congr 288 (fun r hr => by
        rw [(h4 r hr).1, (h4 r hr).2, size_ex]
        constructor
        · rintro ⟨⟨i, a, b, c⟩, z⟩
          refine ⟨i, a, b, c, fun j hj hji hb => ?_⟩
          have z2 : cnt (fun i => gapP (g_sf τ 6 0) lv i ∧ f i = r ∧ border (g_sf τ 6 0) i) 288 = 0 := by
            have := cnt_le (p := fun i => gapP (g_sf τ 6 0) lv i ∧ f i = r ∧ border (g_sf τ 6 0) i) 288
            rw [teq, tnat (by omega), tl0] at z
            omega
          exact cnt_zero z2 j (gapP_lt hj) ⟨hj, ((h3 j i hj b).mpr hji).trans c, hb⟩
        · rintro ⟨i, a, b, c, z⟩
          refine ⟨⟨i, a, b, c⟩, ?_⟩
          rw [cnt_none 288 (fun j hj g => z j g.1 ((h3 j i g.1 b).mp (g.2.1.trans c.symm)) g.2.2)]
          rfl)
      have e2 : cnt (fun r => 0 < (t.1 13 r).toInt ∧ ∀ i, i < 288 → t.1 12 i = Int32.ofNat r → ins (g_sf τ 6 0) i) 288 = cnt (fun r => ∃ i, i < 288 ∧ gapP (g_sf τ 6 0) lv i ∧ mStar (g_sf τ 6 0) lv i = r ∧ ∀ j, gapP (g_sf τ 6 0) lv j → mStar (g_sf τ 6 0) lv j = mStar (g_sf τ 6 0) lv i → ¬ border (g_sf τ 6 0) j) 288 := cnt_congr 288 (fun r hr => by
        rw [hM.2.2 r hr, size_ex]
        constructor
        · rintro ⟨⟨i, a, b, c⟩, z⟩
          refine ⟨i, a, b, c, fun j hj hji => (ins_border hj).mp (z j (gapP_lt hj) ?_)⟩
          rw [((hM.2.1 j (gapP_lt hj)).1 hj).1, hji, c]
        · rintro ⟨i, a, b, c, z⟩
          refine ⟨⟨i, a, b, c⟩, fun j hj he => ?_⟩
          by_cases hg : gapP (g_sf τ 6 0) lv j
          · refine (ins_border hg).mpr (z j hg ?_)
            rw [((hM.2.1 j hj).1 hg).1] at he
            rw [(ofn_inj (ml_lt hM hg) hr).mp he, c]
          · rw [(hM.2.1 j hj).2 hg] at he
            exact absurd he (ofn_m1 hr))
      rw [e1, e2]
      refine (names_eq (Q := fun i => ∀ j, gapP (g_sf τ 6 0) lv j → mStar (g_sf τ 6 0) lv j = mStar (g_sf τ 6 0) lv i → ¬ border (g_sf τ 6 0) j) hM h2 h3 (fun i j hi hj he => ⟨fun g k hk hkj => g k hk (hkj.trans he.symm), fun g k hk hki => g k hk (hki.trans he)⟩)).symm
    · have gv : ¬ (v < 0 ∨ 288 ≤ v.toNatClampNeg) := by rw [tlt, tl0, tcl]; omega
      rw [if_neg (by rw [tle, tl288]; omega), if_neg gv]
      simp only [gJoin1, gJoin0]
      have ev : g_ga t 13 v = t.1 13 v.toInt.toNat := rfl
      have en : v = Int32.ofNat v.toInt.toNat := ofN_eq (by omega)
      have F := fun f0 hf0 => flag_m (T := Int32 × gSt) (τ := g_sf τ 6 0) (t := t) (N := N) (r := v) (f0 := f0) (R := fun w => self (x + w) (v + 1)) hR6.2.1 hM.1.mp hN hf0
      rw [ev]
      by_cases c : t.1 13 v.toInt.toNat ≤ 0
      · rw [if_pos c]
        refine (F 0 (Or.inl rfl)).trans ?_
        rw [cif_neg (fun g => one_ne g.1.symm), cif_neg (fun g => by rw [tle, tl0] at c; omega), Int32.add_zero]
      · rw [if_neg c]
        refine (F 1 (Or.inr rfl)).trans ?_
        by_cases q : ∀ i, i < 288 → t.1 12 i = v → ins (g_sf τ 6 0) i
        · rw [cif_pos ⟨rfl, q⟩, cif_pos ⟨by rw [tle, tl0] at c; omega, by rw [← en]; exact q⟩]
        · rw [cif_neg (fun g => q g.2), cif_neg (fun g => q (by rw [← en] at g; exact g.2)), Int32.add_zero]
  · rw [need_lv_no h, if_neg (by decide), isl_no h, asked0, if_pos rfl]
    exact Agr.no hR (by decide) (Or.inr rfl) rfl
