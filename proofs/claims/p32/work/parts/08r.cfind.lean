/-! ===== pure: the class finds its gaps, and joins them all ===== -/
theorem has_yes {σ τ s : gSt} {lv x y : Int32} (hR : Rel σ τ) (hB : CB σ lv s) (h : onMap τ x y) : ¬ f_X8_has s x y = 0 := by
  obtain ⟨h1, h2⟩ := h
  unfold f_X8_has
  rw [hB.w hR, hB.v hR, if_neg (c := x < 0) (by rw [tlt, tl0]; omega), if_neg (c := τ.2 0 ≤ x) (by rw [tle]; omega), if_neg (c := y < 0) (by rw [tlt, tl0]; omega), if_neg (c := τ.2 1 ≤ y) (by rw [tle]; omega)]
  exact one_ne
theorem has_no {σ τ s : gSt} {lv x y : Int32} (hR : Rel σ τ) (hB : CB σ lv s) (h : ¬ onMap τ x y) : f_X8_has s x y = 0 := by
  unfold f_X8_has
  unfold onMap at h
  rw [hB.w hR, hB.v hR]
  simp only [tlt, tle, tl0]
  by_cases c1 : x.toInt < 0
  · rw [if_pos c1]
  rw [if_neg c1]
  by_cases c2 : (τ.2 0).toInt ≤ x.toInt
  · rw [if_pos c2]
  rw [if_neg c2]
  by_cases c3 : y.toInt < 0
  · rw [if_pos c3]
  rw [if_neg c3, if_pos (show (τ.2 1).toInt ≤ y.toInt by omega)]
theorem num12 {x y : Int32} (h1 : 0 ≤ x.toInt) (h2 : x.toInt ≤ 12) (h3 : 0 ≤ y.toInt) (h4 : y.toInt ≤ 12) : (f_X8_number x y).toInt = 12 * y.toInt + x.toInt := by
  have e : (12 * y).toInt = 12 * y.toInt := by rw [tmul (by rw [tl12]; omega), tl12]
  rw [num_eq, tadd (by rw [e]; omega), e]
/-- the gaps found among those of D -/
def CG (σ τ : gSt) (lv : Int32) (B3 B4 : Nat → Int32) (D : Nat → Prop) (s : gSt) : Prop := CB σ lv s ∧ s.1 3 = B3 ∧ s.1 4 = B4 ∧ ∀ k, k < 288 → (gapP τ lv k → D k → s.1 2 k = Int32.ofNat k) ∧ (¬ (gapP τ lv k ∧ D k) → s.1 2 k = -1)
theorem CG.congr {σ τ s : gSt} {lv : Int32} {B3 B4 : Nat → Int32} {D D' : Nat → Prop} (h : CG σ τ lv B3 B4 D s) (hD : ∀ k, gapP τ lv k → (D k ↔ D' k)) : CG σ τ lv B3 B4 D' s :=
  ⟨h.1, h.2.1, h.2.2.1, fun k hk => ⟨fun h1 h2 => (h.2.2.2 k hk).1 h1 ((hD k h1).mpr h2), fun g => (h.2.2.2 k hk).2 (fun e => g ⟨e.1, (hD k e.1).mp e.2⟩)⟩⟩
theorem CG.put {σ τ s : gSt} {lv v : Int32} {B3 B4 : Nat → Int32} {D : Nat → Prop} {a : Nat} (h : CG σ τ lv B3 B4 D s) (hv : v.toInt = a) (ha : gapP τ lv a) : CG σ τ lv B3 B4 (fun k => D k ∨ k = a) (gput s 2 v v) := by
  have la := gapP_lt ha
  rw [gput_pa (by omega) (by rw [len288.1]; omega)]
  refine ⟨h.1.sa (by unfold ck; decide), by rw [pa_1, if_neg (by decide)]; exact h.2.1, by rw [pa_1, if_neg (by decide)]; exact h.2.2.1, fun k hk => ?_⟩
  rw [pa_1, if_pos rfl, upd_at]
  by_cases e : k = a
  · rw [if_pos (by omega), e]
    exact ⟨fun _ _ => ofN_eq hv, fun g => absurd ⟨ha, Or.inr rfl⟩ g⟩
  · rw [if_neg (by omega)]
    exact ⟨fun h1 h2 => (h.2.2.2 k hk).1 h1 (h2.elim id (fun g => absurd g e)), fun g => (h.2.2.2 k hk).2 (fun q => g ⟨q.1, Or.inl q.2⟩)⟩
theorem CG.skip {σ τ s : gSt} {lv : Int32} {B3 B4 : Nat → Int32} {D : Nat → Prop} {a : Nat} (h : CG σ τ lv B3 B4 D s) (ha : ¬ gapP τ lv a) : CG σ τ lv B3 B4 (fun k => D k ∨ k = a) s :=
  h.congr (fun k hk => ⟨Or.inl, fun g => g.elim id (fun e => absurd (e ▸ hk) ha)⟩)
theorem findGaps_c {σ τ s0 : gSt} {N : Nat} {lv : Int32} {B3 B4 : Nat → Int32} (hR : Rel σ τ) (hN : 13 < N) (h0 : CG σ τ lv B3 B4 (fun _ => False) s0) : Ok (CG σ τ lv B3 B4 (fun _ => True)) (f_X0_findGaps N s0) := by
  obtain ⟨w1, w2, w3, w4, -⟩ := hR.2.1
  unfold f_X0_findGaps
  refine gLoop2_ok (fun m y s => (0 ≤ y.toInt ∧ y.toInt ≤ (τ.2 1).toInt) ∧ (m : Int) = 12 - y.toInt ∧ CG σ τ lv B3 B4 (fun k => ((k % 144 : Nat) : Int) < 12 * y.toInt) s) ?_ N 12 0 s0 (by omega) ⟨by rw [tl0]; omega, by rw [tl0]; rfl, h0.congr (fun k _ => ⟨False.elim, fun h => by rw [tl0] at h; omega⟩)⟩
  intro m y s self ⟨hy, hm, hG⟩ ih
  have er : f_X8_rows s = τ.2 1 := hG.1.v hR
  rw [er]
  by_cases c0 : τ.2 1 ≤ y
  · rw [tle] at c0
    refine okt (by rw [tle]; exact c0) (Ok.some (hG.congr (fun k hk => ⟨fun _ => trivial, fun _ => ?_⟩)))
    rcases hk with h | h <;> omega
  refine okf c0 ?_
  rw [tle] at c0
  refine gLoop2_ok (fun m x s => (0 ≤ x.toInt ∧ x.toInt ≤ (τ.2 0).toInt) ∧ (m : Int) = 12 - x.toInt ∧ CG σ τ lv B3 B4 (fun k => ((k % 144 : Nat) : Int) < 12 * y.toInt + x.toInt) s) ?_ N 12 0 s (by omega) ⟨by rw [tl0]; omega, by rw [tl0]; rfl, hG.congr (fun k _ => by rw [tl0]; omega)⟩
  clear hG er
  intro m2 x s self2 ⟨hx, hm2, hG⟩ ih2
  have ec : f_X8_columns s = τ.2 0 := hG.1.w hR
  rw [ec]
  have ey := inc1 (v := y) (n := 12) (by omega) (by omega)
  by_cases c1 : τ.2 0 ≤ x
  · refine okt c1 ?_
    rw [tle] at c1
    refine ih (m - 1) (y + 1) s (by omega) ⟨by rw [ey]; omega, by rw [ey]; omega, hG.congr (fun k hk => ?_)⟩
    rw [ey]
    rcases hk with h | h <;> omega
  refine okf c1 (okj ?_)
  rw [tle] at c1
  have ex := inc1 (v := x) (n := 12) (by omega) (by omega)
  have nA := num12 (x := x) (y := y) (by omega) (by omega) (by omega) (by omega)
  have nB := num12 (x := x + 1) (y := y) (by omega) (by omega) (by omega) (by omega)
  have nC := num12 (x := x) (y := y + 1) (by omega) (by omega) (by omega) (by omega)
  rw [ex] at nB
  rw [ey] at nC
  generalize hk : 12 * y.toInt.toNat + x.toInt.toNat = k at *
  have hA := high_c (k := k) hR hG.1 (x := x) (y := y) (by omega) (by omega)
  have fin : ∀ s2, CG σ τ lv B3 B4 (fun j => (((j % 144 : Nat) : Int) < 12 * y.toInt + x.toInt ∨ j = k) ∨ j = 144 + k) s2 → Ok (CG σ τ lv B3 B4 (fun _ => True)) (self2 (x + 1) s2) := fun s2 h2 =>
    ih2 (m2 - 1) (x + 1) s2 (by omega) ⟨by rw [ex]; omega, by rw [ex]; omega, h2.congr (fun j hj => by rw [ex]; have := gapP_lt hj; omega)⟩
  have second : ∀ s2, CG σ τ lv B3 B4 (fun j => ((j % 144 : Nat) : Int) < 12 * y.toInt + x.toInt ∨ j = k) s2 → Ok (CG σ τ lv B3 B4 (fun _ => True)) (gJoin1 (fun s_119 => self2 (x + 1) s_119) (fun j119 => if f_X8_has s2 x (y + 1) = 0 then j119 s2 else if f_X0_isHigh s x y = f_X0_isHigh s2 x (y + 1) then j119 s2 else j119 (gput s2 2 (f_X0_gapBelow x y) (f_X0_gapBelow x y)))) := by
    intro s2 h2
    refine okj ?_
    by_cases hm : onMap τ x (y + 1)
    · have hm1 := hm.2
      rw [ey] at hm1
      refine okf (has_yes hR h2.1 hm) ?_
      have hC := high_c (k := k + 12) hR h2.1 (x := x) (y := y + 1) (by omega) (by omega)
      rw [hA, hC]
      have gp : gapP τ lv (144 + k) ↔ ¬ (high τ lv k ↔ high τ lv (k + 12)) := ⟨fun h => by
        rcases h with h | h
        · omega
        · have := h.2.2.2.2
          rw [show 144 + k - 144 = k by omega, show 144 + k - 132 = k + 12 by omega] at this
          exact this, fun h => Or.inr ⟨by omega, by omega, by omega, by omega, by
          rw [show 144 + k - 144 = k by omega, show 144 + k - 132 = k + 12 by omega]
          exact h⟩⟩
      by_cases q : high τ lv k ↔ high τ lv (k + 12)
      · exact okt (cif_eq.mpr q) (fin s2 (h2.skip (fun g => gp.mp g q)))
      · refine okf (fun e => q (cif_eq.mp e)) (fin _ (h2.put (a := 144 + k) ?_ (gp.mpr q)))
        unfold f_X0_gapBelow
        rw [tadd (by rw [nA, tl144]; omega), nA, tl144]
        omega
    · refine okt (has_no hR h2.1 hm) (fin s2 (h2.skip (fun g => hm ?_)))
      unfold onMap
      rw [ey]
      rcases g with g | g <;> omega
  by_cases hm : onMap τ (x + 1) y
  · have hm1 := hm.1
    rw [ex] at hm1
    refine okf (has_yes hR hG.1 hm) ?_
    have hC := high_c (k := k + 1) hR hG.1 (x := x + 1) (y := y) (by omega) (by omega)
    rw [hA, hC]
    have gp : gapP τ lv k ↔ ¬ (high τ lv k ↔ high τ lv (k + 1)) := ⟨fun h => by
      rcases h with h | h
      · exact h.2.2.2
      · omega, fun h => Or.inl ⟨by omega, by omega, by omega, h⟩⟩
    by_cases q : high τ lv k ↔ high τ lv (k + 1)
    · refine okt (cif_eq.mpr q) ?_
      have := second s (hG.skip (fun g => gp.mp g q))
      rw [hA] at this
      exact this
    · refine okf (fun e => q (cif_eq.mp e)) ?_
      have := second _ (hG.put (a := k) (v := f_X0_gapToTheRight x y) (by unfold f_X0_gapToTheRight; omega) (gp.mpr q))
      rw [hA] at this
      exact this
  · refine okt (has_no hR hG.1 hm) (second s (hG.skip (fun g => hm ?_)))
    unfold onMap
    rw [ex]
    rcases g with g | g <;> omega
theorem joinGaps_c {σ τ s0 : gSt} {N : Nat} {lv : Int32} {B3 B4 : Nat → Int32} (hR : Rel σ τ) (hN : 288 < N) (hl : 1 ≤ lv.toInt ∧ lv.toInt ≤ 255) (h0 : CX σ τ lv B3 B4 0 (fun i => i) s0) : Ok (CX σ τ lv B3 B4 288 (mStar τ lv)) (f_X0_joinGaps N s0) := by
  obtain ⟨w1, w2, w3, w4, -⟩ := hR.2.1
  unfold f_X0_joinGaps
  refine gLoop2_ok (fun m y s => (0 ≤ y.toInt ∧ y.toInt + 1 ≤ (τ.2 1).toInt) ∧ (m : Int) = 12 - y.toInt ∧ ∃ M, CX σ τ lv B3 B4 (24 * y.toInt.toNat) M s ∧ gFold (sqF τ lv) (144 - 12 * y.toInt.toNat) (12 * y.toInt.toNat) M = mStar τ lv) ?_ N 12 0 s0 (by omega) ⟨by rw [tl0]; omega, by rw [tl0]; rfl, fun i => i, h0, by rw [tl0]; rfl⟩
  intro m y s self ⟨hy, hm, M, hX, hF⟩ ih
  have er : f_X8_rows s = τ.2 1 := hX.1.v hR
  have ey := inc1 (v := y) (n := 12) (by omega) (by omega)
  rw [er]
  by_cases c0 : τ.2 1 ≤ y + 1
  · refine okt c0 (Ok.some ?_)
    rw [tle, ey] at c0
    have := gFold_skip (f := sqF τ lv) (a := M) (144 - 12 * y.toInt.toNat) 0 (12 * y.toInt.toNat) (fun j h1 h2 => cif_neg (fun g => by have := g.2; omega))
    rw [Nat.add_zero, hF] at this
    have this : mStar τ lv = M := this
    rw [this]
    exact hX.mono (by omega)
  refine okf c0 ?_
  rw [tle, ey] at c0
  refine gLoop2_ok (fun m x s => (0 ≤ x.toInt ∧ x.toInt + 1 ≤ (τ.2 0).toInt) ∧ (m : Int) = 12 - x.toInt ∧ ∃ M, CX σ τ lv B3 B4 (24 * y.toInt.toNat + 2 * x.toInt.toNat) M s ∧ gFold (sqF τ lv) (144 - (12 * y.toInt.toNat + x.toInt.toNat)) (12 * y.toInt.toNat + x.toInt.toNat) M = mStar τ lv) ?_ N 12 0 s (by omega) ⟨by rw [tl0]; omega, by rw [tl0]; rfl, M, by rw [tl0]; exact hX, by rw [tl0]; exact hF⟩
  clear hX hF er
  intro m2 x s self2 ⟨hx, hm2, M, hX, hF⟩ ih2
  have ec : f_X8_columns s = τ.2 0 := hX.1.w hR
  have ex := inc1 (v := x) (n := 12) (by omega) (by omega)
  rw [ec]
  by_cases c1 : τ.2 0 ≤ x + 1
  · refine okt c1 ?_
    rw [tle, ex] at c1
    refine ih (m - 1) (y + 1) s (by omega) ⟨by rw [ey]; omega, by rw [ey]; omega, M, hX.mono (by rw [ey]; omega), ?_⟩
    have := gFold_skip (f := sqF τ lv) (a := M) (12 - x.toInt.toNat) (144 - 12 * (y.toInt + 1).toNat) (12 * y.toInt.toNat + x.toInt.toNat) (fun j h1 h2 => cif_neg (fun g => by have := g.1; omega))
    rw [show 12 - x.toInt.toNat + (144 - 12 * (y.toInt + 1).toNat) = 144 - (12 * y.toInt.toNat + x.toInt.toNat) by omega, show 12 * y.toInt.toNat + x.toInt.toNat + (12 - x.toInt.toNat) = 12 * (y.toInt + 1).toNat by omega, hF] at this
    rw [ey]
    exact this.symm
  refine okf c1 ?_
  rw [tle, ex] at c1
  rw [show 144 - (12 * y.toInt.toNat + x.toInt.toNat) = 143 - (12 * y.toInt.toNat + x.toInt.toNat) + 1 by omega, gFold_succ] at hF
  refine (square_c (k := 12 * y.toInt.toNat + x.toInt.toNat) hR hN hl (by omega) hX (by omega) (by omega) ⟨by omega, by omega⟩).bind (fun t ht => ?_)
  refine ih2 (m2 - 1) (x + 1) t (by omega) ⟨by rw [ex]; omega, by rw [ex]; omega, _, ht.mono (by rw [ex]; omega), ?_⟩
  rw [ex, ← hF]
  congr 1 <;> omega
