/-! ===== pure: the class's square ===== -/
theorem ok4 {T : Type} {P Q : T → Prop} {o : Option T} {k : T → Option T} (h : Ok Q o) (hk : ∀ t, Q t → Ok P (k t)) : Ok P (o.bind k) := h.bind hk
theorem high_c {σ τ s : gSt} {lv x y : Int32} {k : Nat} (hR : Rel σ τ) (hB : CB σ lv s) (h : (f_X8_number x y).toInt = k) (hk : k < 144) : f_X0_isHigh s x y = cif (high τ lv k) 1 0 := by
  unfold f_X0_isHigh f_X8_heightOf high
  rw [hB.2, gget_in (by omega) (by rw [len144.1]; omega), hB.h hR, show (f_X8_number x y).toInt.toNat = k by omega]
  by_cases c : τ.1 0 k < lv
  · rw [if_pos c, cif_neg (by rw [tlt] at c; omega)]
  · rw [if_neg c, cif_pos (by rw [tlt] at c; omega)]
theorem low_c {σ τ s : gSt} {lv x y : Int32} {k : Nat} (hR : Rel σ τ) (hB : CB σ lv s) (hl : 1 ≤ lv.toInt ∧ lv.toInt ≤ 255) (h : (f_X8_number x y).toInt = k) (h2 : (f_X8_number x (y + 1)).toInt = (k + 12 : Nat)) (hk : k < 131) : f_X0_joinsLowCells s x y = cif (4 * lv.toInt ≤ (τ.1 0 k).toInt + (τ.1 0 (k + 1)).toInt + (τ.1 0 (k + 12)).toInt + (τ.1 0 (k + 13)).toInt) 1 0 := by
  have hh := hR.2.1.2.2.2.2.1
  have h0 := hh k
  have h1 := hh (k + 1)
  have h3 := hh (k + 12)
  have h4 := hh (k + 13)
  have e1 : (f_X8_number x y + 1).toInt = (k + 1 : Nat) := by rw [tadd (by rw [h, tl1]; omega), h, tl1]; omega
  have e2 : (f_X8_number x (y + 1) + 1).toInt = (k + 13 : Nat) := by rw [tadd (by rw [h2, tl1]; omega), h2, tl1]; omega
  unfold f_X0_joinsLowCells f_X8_heightOf
  rw [hB.2, gget_in (i := f_X8_number x y) (by omega) (by rw [len144.1]; omega), gget_in (i := f_X8_number x y + 1) (by omega) (by rw [len144.1]; omega), gget_in (i := f_X8_number x (y + 1)) (by omega) (by rw [len144.1]; omega), gget_in (i := f_X8_number x (y + 1) + 1) (by omega) (by rw [len144.1]; omega), hB.h hR, show (f_X8_number x y).toInt.toNat = k by omega, show (f_X8_number x y + 1).toInt.toNat = k + 1 by omega, show (f_X8_number x (y + 1)).toInt.toNat = k + 12 by omega, show (f_X8_number x (y + 1) + 1).toInt.toNat = k + 13 by omega]
  have s1 : (τ.1 0 k + τ.1 0 (k + 1)).toInt = (τ.1 0 k).toInt + (τ.1 0 (k + 1)).toInt := tadd (by omega)
  have s2 : (τ.1 0 k + τ.1 0 (k + 1) + τ.1 0 (k + 12)).toInt = (τ.1 0 k).toInt + (τ.1 0 (k + 1)).toInt + (τ.1 0 (k + 12)).toInt := by rw [tadd (by rw [s1]; omega), s1]
  have s3 : (τ.1 0 k + τ.1 0 (k + 1) + τ.1 0 (k + 12) + τ.1 0 (k + 13)).toInt = (τ.1 0 k).toInt + (τ.1 0 (k + 1)).toInt + (τ.1 0 (k + 12)).toInt + (τ.1 0 (k + 13)).toInt := by rw [tadd (by rw [s2]; omega), s2]
  have s4 : (4 * lv).toInt = 4 * lv.toInt := by rw [tmul (by rw [tl4]; omega), tl4]
  by_cases c : τ.1 0 k + τ.1 0 (k + 1) + τ.1 0 (k + 12) + τ.1 0 (k + 13) < 4 * lv
  · rw [if_pos c, cif_neg (by rw [tlt, s3, s4] at c; omega)]
  · rw [if_neg c, cif_pos (by rw [tlt, s3, s4] at c; omega)]
theorem cif_eq {p q : Prop} : (cif p (1 : Int32) 0 = cif q 1 0) ↔ (p ↔ q) := by
  by_cases hp : p <;> by_cases hq : q
  · rw [cif_pos hp, cif_pos hq]; exact ⟨fun _ => ⟨fun _ => hq, fun _ => hp⟩, fun _ => rfl⟩
  · rw [cif_pos hp, cif_neg hq]; exact ⟨fun h => absurd h one_ne, fun h => absurd (h.mp hp) hq⟩
  · rw [cif_neg hp, cif_pos hq]; exact ⟨fun h => absurd h.symm one_ne, fun h => absurd (h.mpr hq) hp⟩
  · rw [cif_neg hp, cif_neg hq]; exact ⟨fun _ => ⟨fun h => absurd h hp, fun h => absurd h hq⟩, fun _ => rfl⟩
theorem square_c {σ τ s : gSt} {N : Nat} {lv x y : Int32} {B3 B4 : Nat → Int32} {M : Nat → Nat} {k d : Nat} (hR : Rel σ τ) (hN : 288 < N) (hl : 1 ≤ lv.toInt ∧ lv.toInt ≤ 255) (hd : d + 2 ≤ 288) (hS : CX σ τ lv B3 B4 d M s) (hx : x.toInt = (k % 12 : Nat)) (hy : y.toInt = (k / 12 : Nat)) (hk : sqIn τ k) : Ok (CX σ τ lv B3 B4 (d + 2) (sqF τ lv k M)) (f_X0_joinInSquare N s x y) := by
  have hT := hR.2.1
  have hT2 := hT
  obtain ⟨w1, w2, w3, w4, -⟩ := hT2
  have hk1 := hk.1
  have hk2 := hk.2
  have hkk : k < 131 := by omega
  have ey := inc1 (v := y) (n := 12) (by omega) (by omega)
  have ex := inc1 (v := x) (n := 12) (by omega) (by omega)
  have nn : ∀ u v : Int32, 0 ≤ u.toInt → u.toInt ≤ 12 → 0 ≤ v.toInt → v.toInt ≤ 12 → (f_X8_number u v).toInt = 12 * v.toInt + u.toInt := fun u v a b c d => by
    have e : (12 * v).toInt = 12 * v.toInt := by rw [tmul (by rw [tl12]; omega), tl12]
    rw [num_eq, tadd (by rw [e]; omega), e]
  have na : (f_X8_number x y).toInt = k := by rw [nn x y (by omega) (by omega) (by omega) (by omega)]; omega
  have nb : (f_X8_number x (y + 1)).toInt = (k + 12 : Nat) := by rw [nn x (y + 1) (by omega) (by omega) (by omega) (by omega), ey]; omega
  have ne : (f_X8_number (x + 1) y).toInt = (k + 1 : Nat) := by rw [nn (x + 1) y (by omega) (by omega) (by omega) (by omega), ex]; omega
  have xa : (f_X0_gapToTheRight x y).toInt = k := na
  have xb : (f_X0_gapToTheRight x (y + 1)).toInt = (k + 12 : Nat) := nb
  have xc : (f_X0_gapBelow x y).toInt = (144 + k : Nat) := by unfold f_X0_gapBelow; rw [tadd (by rw [na, tl144]; omega), na, tl144]; omega
  have xe : (f_X0_gapBelow (x + 1) y).toInt = (145 + k : Nat) := by unfold f_X0_gapBelow; rw [tadd (by rw [ne, tl144]; omega), ne, tl144]; omega
  have la : k < 288 := by omega
  have lb : k + 12 < 288 := by omega
  have lc : 144 + k < 288 := by omega
  have le : 145 + k < 288 := by omega
  obtain ⟨ga, gb, gc, ge⟩ := sq_gaps (lv := lv) hT hk
  have hH := high_c hR hS.1 na (by omega)
  have hJ := low_c hR hS.1 hl na nb hkk
  have hS2 := hS
  obtain ⟨-, -, -, L, hL, hF, -⟩ := hS2
  unfold f_X0_joinInSquare sqF
  rw [cif_pos hk]
  by_cases pa : gapP τ lv k <;> by_cases pb : gapP τ lv (k + 12) <;> by_cases pc : gapP τ lv (144 + k) <;> by_cases pe : gapP τ lv (145 + k)
  · rw [cif_pos ⟨pa, pb, pc, pe⟩]
    refine okf (gap_yes hL hF xa pa) (okf (gap_yes hL hF xb pb) (okf (gap_yes hL hF xc pc) (okf (gap_yes hL hF xe pe) ?_)))
    rw [hH, hJ]
    by_cases q : sqOwn τ lv k
    · rw [cif_pos q]
      refine okf (fun h => ?_) ((join_yes hN (by omega) hS xa xc pa pc).bind (fun t ht => (join_yes hN (by omega) ht xb xe pb pe).bind (fun u hu => Ok.some hu)))
      have h := cif_eq.mp h
      unfold sqOwn at q
      by_cases z : high τ lv k
      · exact absurd z (q.mpr (h.mp z))
      · exact z (h.mpr (q.mp z))
    · rw [cif_neg q]
      refine okt (cif_eq.mpr ?_) ((join_yes hN (by omega) hS xa xe pa pe).bind (fun t ht => (join_yes hN (by omega) ht xb xc pb pc).bind (fun u hu => Ok.some hu)))
      unfold sqOwn at q
      by_cases z : high τ lv k
      · refine ⟨fun _ => Classical.byContradiction (fun g => q ⟨fun h => absurd z h, fun h => absurd h g⟩), fun _ => z⟩
      · refine ⟨fun h => absurd h z, fun g => absurd ⟨fun _ => g, fun _ => z⟩ q⟩
  · exact (par14 ga gb gc ge pa pb pc pe).elim
  · exact (par13 ga gb gc ge pa pb pc pe).elim
  · rw [cif_neg (fun h => pc h.2.2.1), cif_pos (Or.inl pa), cif_pos pa, cif_neg pe, cif_neg pc]
    refine okf (gap_yes hL hF xa pa) (okf (gap_yes hL hF xb pb) (okt (gap_no hL xc lc pc) ?_))
    exact ((join_yes hN (by omega) hS xa xb pa pb).bind (fun t ht => (okb (join_no ht xa xc la lc (Or.inr pc)) (okb (join_no ht xa xe la le (Or.inr pe)) (okb (join_no ht xb xc lb lc (Or.inr pc)) (okb (join_no ht xb xe lb le (Or.inr pe)) (okb (join_no ht xc xe lc le (Or.inl pc)) (Ok.some (ht.mono (by omega))))))))))
  · exact (par11 ga gb gc ge pa pb pc pe).elim
  · rw [cif_neg (fun h => pb h.2.1), cif_pos (Or.inl pa), cif_pos pa, cif_neg pe, cif_pos pc]
    refine okf (gap_yes hL hF xa pa) (okt (gap_no hL xb lb pb) ?_)
    exact (okb (join_no hS xa xb la lb (Or.inr pb)) ((join_yes hN (by omega) hS xa xc pa pc).bind (fun t ht => (okb (join_no ht xa xe la le (Or.inr pe)) (okb (join_no ht xb xc lb lc (Or.inl pb)) (okb (join_no ht xb xe lb le (Or.inl pb)) (okb (join_no ht xc xe lc le (Or.inr pe)) (Ok.some (ht.mono (by omega))))))))))
  · rw [cif_neg (fun h => pb h.2.1), cif_pos (Or.inl pa), cif_pos pa, cif_pos pe]
    refine okf (gap_yes hL hF xa pa) (okt (gap_no hL xb lb pb) ?_)
    exact (okb (join_no hS xa xb la lb (Or.inr pb)) (okb (join_no hS xa xc la lc (Or.inr pc)) ((join_yes hN (by omega) hS xa xe pa pe).bind (fun t ht => (okb (join_no ht xb xc lb lc (Or.inl pb)) (okb (join_no ht xb xe lb le (Or.inl pb)) (okb (join_no ht xc xe lc le (Or.inl pc)) (Ok.some (ht.mono (by omega))))))))))
  · exact (par8 ga gb gc ge pa pb pc pe).elim
  · exact (par7 ga gb gc ge pa pb pc pe).elim
  · rw [cif_neg (fun h => pa h.1), cif_pos (Or.inr (Or.inl pb)), cif_neg pa, cif_pos pb, cif_neg pe, cif_pos pc]
    refine okt (gap_no hL xa la pa) ?_
    exact (okb (join_no hS xa xb la lb (Or.inl pa)) (okb (join_no hS xa xc la lc (Or.inl pa)) (okb (join_no hS xa xe la le (Or.inl pa)) ((join_yes hN (by omega) hS xb xc pb pc).bind (fun t ht => (okb (join_no ht xb xe lb le (Or.inr pe)) (okb (join_no ht xc xe lc le (Or.inr pe)) (Ok.some (ht.mono (by omega))))))))))
  · rw [cif_neg (fun h => pa h.1), cif_pos (Or.inr (Or.inl pb)), cif_neg pa, cif_pos pb, cif_pos pe]
    refine okt (gap_no hL xa la pa) ?_
    exact (okb (join_no hS xa xb la lb (Or.inl pa)) (okb (join_no hS xa xc la lc (Or.inl pa)) (okb (join_no hS xa xe la le (Or.inl pa)) (okb (join_no hS xb xc lb lc (Or.inr pc)) ((join_yes hN (by omega) hS xb xe pb pe).bind (fun t ht => (okb (join_no ht xc xe lc le (Or.inl pc)) (Ok.some (ht.mono (by omega))))))))))
  · exact (par4 ga gb gc ge pa pb pc pe).elim
  · rw [cif_neg (fun h => pa h.1), cif_pos (Or.inr (Or.inr (Or.inl pc))), cif_neg pa, cif_neg pb, cif_pos pe]
    refine okt (gap_no hL xa la pa) ?_
    exact (okb (join_no hS xa xb la lb (Or.inl pa)) (okb (join_no hS xa xc la lc (Or.inl pa)) (okb (join_no hS xa xe la le (Or.inl pa)) (okb (join_no hS xb xc lb lc (Or.inl pb)) (okb (join_no hS xb xe lb le (Or.inl pb)) ((join_yes hN (by omega) hS xc xe pc pe).bind (fun t ht => (Ok.some (ht.mono (by omega))))))))))
  · exact (par2 ga gb gc ge pa pb pc pe).elim
  · exact (par1 ga gb gc ge pa pb pc pe).elim
  · rw [cif_neg (fun h => pa h.1), cif_neg (fun h => h.elim pa (fun h => h.elim pb (fun h => h.elim pc pe)))]
    refine okt (gap_no hL xa la pa) ?_
    exact (okb (join_no hS xa xb la lb (Or.inl pa)) (okb (join_no hS xa xc la lc (Or.inl pa)) (okb (join_no hS xa xe la le (Or.inl pa)) (okb (join_no hS xb xc lb lc (Or.inl pb)) (okb (join_no hS xb xe lb le (Or.inl pb)) (okb (join_no hS xc xe lc le (Or.inl pc)) (Ok.some (hS.mono (by omega)))))))))
