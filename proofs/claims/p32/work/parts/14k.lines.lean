/-! ===== pure: turned maps: lines, rings, longest ===== -/
/-- how many lines have Q -/
noncomputable def NL (τ : gSt) (lv : Int32) (Q : Nat → Prop) : Nat := cnt (fun r => ∃ i, i < 288 ∧ gapP τ lv i ∧ mStar τ lv i = r ∧ Q i) 288
theorem NL_tp {τ t : gSt} {lv : Int32} {Q Q' : Nat → Prop} (hI : Inv τ) (hI' : Inv t) (h : Tr τ t) (hm : ∀ i, gapP τ lv i → mStar τ lv i < 288) (hm' : ∀ i, gapP t lv i → mStar t lv i < 288) (hQ : ∀ i, gapP τ lv i → (Q' (gt i) ↔ Q i)) (hc : ∀ i j, gapP τ lv i → gapP τ lv j → mStar τ lv i = mStar τ lv j → (Q i ↔ Q j)) : NL t lv Q' = NL τ lv Q := by
  unfold NL
  have e1 : cnt (fun r => ∃ i, i < 288 ∧ gapP t lv i ∧ mStar t lv i = r ∧ Q' i) 288 = cnt (fun r => ∃ i, i < 288 ∧ gapP τ lv i ∧ mStar t lv (gt i) = r ∧ Q i) 288 := cnt_congr 288 (fun r _ => by
    constructor
    · rintro ⟨i, hi, hg, he, hq⟩
      have hg' : gapP τ lv (gt i) := (gap_iff hI hI' h (gt_lt hi)).mp (by rw [gt_gt hi]; exact hg)
      exact ⟨gt i, gt_lt hi, hg', by rw [gt_gt hi]; exact he, (hQ _ hg').mp (by rw [gt_gt hi]; exact hq)⟩
    · rintro ⟨i, hi, hg, he, hq⟩
      exact ⟨gt i, gt_lt hi, gap_tp hI.1 h hg, he, (hQ i hg).mpr hq⟩)
  rw [e1]
  exact (classes2 (G := gapP τ lv) (Q := Q) (f := mStar τ lv) (g := fun i => mStar t lv (gt i)) (N := 288) (n := 288) (fun i _ hg => hm i hg) (fun i _ hg => hm' _ (gap_tp hI.1 h hg)) (fun i j hi hj _ _ => (star_tp hI hI' h hi hj).symm) (fun i j _ _ h1 h2 h3 => hc i j h1 h2 h3)).symm
/-- how many gaps the line of i has -/
theorem size_tp {τ t : gSt} {lv : Int32} (hI : Inv τ) (hI' : Inv t) (h : Tr τ t) {i : Nat} (hi : i < 288) : cnt (fun j => gapP t lv j ∧ mStar t lv j = mStar t lv (gt i)) 288 = cnt (fun j => gapP τ lv j ∧ mStar τ lv j = mStar τ lv i) 288 := by
  rw [← cnt_perm (π := gt) (fun j hj => gt_lt hj) (fun j hj => gt_gt hj) (fun j => gapP t lv j ∧ mStar t lv j = mStar t lv (gt i))]
  exact cnt_congr 288 (fun j hj => by rw [gap_iff hI hI' h hj, star_tp hI hI' h hj hi])
/-- a line whose gaps are all of two squares -/
def rgQ (τ : gSt) (lv : Int32) (i : Nat) : Prop := ∀ j, gapP τ lv j → mStar τ lv j = mStar τ lv i → ¬ border τ j
theorem rgQ_tp {τ t : gSt} {lv : Int32} (hI : Inv τ) (hI' : Inv t) (h : Tr τ t) {i : Nat} (hi : i < 288) : rgQ t lv (gt i) ↔ rgQ τ lv i := by
  unfold rgQ
  refine ⟨fun g j hj he hb => ?_, fun g j hj he hb => ?_⟩
  · have j288 := gapP_lt hj
    exact g (gt j) (gap_tp hI.1 h hj) ((star_tp hI hI' h j288 hi).mpr he) ((border_tp h j288).mpr hb)
  · have j288 := gapP_lt hj
    have hj' : gapP τ lv (gt j) := (gap_iff hI hI' h (gt_lt j288)).mp (by rw [gt_gt j288]; exact hj)
    refine g (gt j) hj' ((star_tp hI hI' h (gt_lt j288) hi).mp (by rw [gt_gt j288]; exact he)) ((border_tp h (gt_lt j288)).mp (by rw [gt_gt j288]; exact hb))
theorem level_n {τ : gSt} {lv : Int32} (h : ¬ (1 ≤ lv.toInt ∧ lv.toInt ≤ 255)) (N : Nat) : f_X10_lines N τ lv = some (0, g_sf τ 6 1) ∧ f_X10_rings N τ lv = some (0, g_sf τ 6 1) ∧ f_X10_longest N τ lv = some (0, g_sf τ 6 1) := by
  unfold f_X10_lines f_X10_rings f_X10_longest
  rw [isl_no h, asked0, if_pos rfl, if_pos rfl, if_pos rfl]
  exact ⟨rfl, rfl, rfl⟩
theorem lines_y {τ : gSt} {N : Nat} {lv : Int32} (hI : Inv τ) (hN : 288 < N) (h : 1 ≤ lv.toInt ∧ lv.toInt ≤ 255) : Ok (fun (q : Int32 × gSt) => q.1 = Int32.ofNat (NL (g_sf τ 6 0) lv (fun _ => True)) ∧ Km (g_sf τ 6 0) q.2) (f_X10_lines N τ lv) := by
  unfold f_X10_lines
  rw [isl h, asked1, if_neg (show ¬ ((1 : Int32), g_sf τ 6 0).1 = 0 from one_ne)]
  have hI6 : Inv (g_sf τ 6 0) := hI.six
  obtain ⟨t, ht, hM⟩ := finds_m hI6.1 hN h
  show Ok _ ((f_X10_findsLines N (g_sf τ 6 0) lv).bind _)
  rw [ht, Option.bind_some, count_gen (K := fun x => some (x, t)) (p := fun r => 0 < (t.1 13 r).toInt) hN (fun self x v h => if_pos h) (fun self x v g1 g2 => ?_)]
  · refine Ok.some ⟨congrArg Int32.ofNat ?_, hM.1⟩
    exact cnt_congr 288 (fun r hr => by
      rw [hM.2.2 r hr, size_ex]
      exact ⟨fun ⟨i, a, b, c⟩ => ⟨i, a, b, c, trivial⟩, fun ⟨i, a, b, c, _⟩ => ⟨i, a, b, c⟩⟩)
  · rw [if_neg (by rw [tle, tl288]; omega), if_neg (by rw [tlt, tl0, tcl]; omega)]
    simp only [gJoin1]
    have ev : g_ga t 13 v = t.1 13 v.toInt.toNat := rfl
    rw [ev]
    by_cases c : t.1 13 v.toInt.toNat ≤ 0
    · rw [if_pos c, cif_neg (by rw [tle, tl0] at c; omega), Int32.add_zero]
    · rw [if_neg c, cif_pos (by rw [tle, tl0] at c; omega)]
theorem rings_y {τ : gSt} {N : Nat} {lv : Int32} (hI : Inv τ) (hN : 288 < N) (h : 1 ≤ lv.toInt ∧ lv.toInt ≤ 255) : Ok (fun (q : Int32 × gSt) => q.1 = Int32.ofNat (NL (g_sf τ 6 0) lv (rgQ (g_sf τ 6 0) lv)) ∧ Km (g_sf τ 6 0) q.2) (f_X10_rings N τ lv) := by
  unfold f_X10_rings
  rw [isl h, asked1, if_neg (show ¬ ((1 : Int32), g_sf τ 6 0).1 = 0 from one_ne)]
  have hI6 : Inv (g_sf τ 6 0) := hI.six
  obtain ⟨t, ht, hM⟩ := finds_m hI6.1 hN h
  show Ok _ ((f_X10_findsLines N (g_sf τ 6 0) lv).bind _)
  rw [ht, Option.bind_some, count_gen (K := fun x => some (x, t)) (p := fun r => 0 < (t.1 13 r).toInt ∧ ∀ i, i < 288 → t.1 12 i = Int32.ofNat r → ins (g_sf τ 6 0) i) hN (fun self x v h => if_pos h) (fun self x v g1 g2 => ?_)]
  · refine Ok.some ⟨congrArg Int32.ofNat ?_, hM.1⟩
    exact cnt_congr 288 (fun r hr => by
        rw [hM.2.2 r hr, size_ex]
        constructor
        · rintro ⟨⟨i, a, b, c⟩, z⟩
          refine ⟨i, a, b, c, fun j hj hji => (ins_border hj).mp (z j (gapP_lt hj) ?_)⟩
          rw [((hM.2.1 j (gapP_lt hj)).1 hj).1, hji, c]
        · rintro ⟨i, a, b, c, z⟩
          refine ⟨⟨i, a, b, c⟩, fun j hj he => ?_⟩
          by_cases hg : gapP (g_sf τ 6 0) lv j
          · refine (ins_border hg).mpr (z j hg ?_)
            rw [((hM.2.1 j hj).1 hg).1] at he
            rw [(ofn_inj (ml_lt hM hg) hr).mp he, c]
          · rw [(hM.2.1 j hj).2 hg] at he
            exact absurd he (ofn_m1 hr))
  · have gv : ¬ (v < 0 ∨ 288 ≤ v.toNatClampNeg) := by rw [tlt, tl0, tcl]; omega
    rw [if_neg (by rw [tle, tl288]; omega), if_neg gv]
    simp only [gJoin1, gJoin0]
    have ev : g_ga t 13 v = t.1 13 v.toInt.toNat := rfl
    have en : v = Int32.ofNat v.toInt.toNat := ofN_eq (by omega)
    have F := fun f0 hf0 => flag_m (T := Int32 × gSt) (τ := g_sf τ 6 0) (t := t) (N := N) (r := v) (f0 := f0) (R := fun w => self (x + w) (v + 1)) hI6.1 hM.1.mp hN hf0
    rw [ev]
    by_cases c : t.1 13 v.toInt.toNat ≤ 0
    · rw [if_pos c]
      refine (F 0 (Or.inl rfl)).trans ?_
      rw [cif_neg (fun g => one_ne g.1.symm), cif_neg (fun g => by rw [tle, tl0] at c; omega), Int32.add_zero]
    · rw [if_neg c]
      refine (F 1 (Or.inr rfl)).trans ?_
      by_cases q : ∀ i, i < 288 → t.1 12 i = v → ins (g_sf τ 6 0) i
      · rw [cif_pos ⟨rfl, q⟩, cif_pos ⟨by rw [tle, tl0] at c; omega, by rw [← en]; exact q⟩]
      · rw [cif_neg (fun g => q g.2), cif_neg (fun g => q (by rw [← en] at g; exact g.2)), Int32.add_zero]
theorem longest_y {τ : gSt} {N : Nat} {lv : Int32} (hI : Inv τ) (hN : 288 < N) (h : 1 ≤ lv.toInt ∧ lv.toInt ≤ 255) : Ok (fun (q : Int32 × gSt) => MF (g_sf τ 6 0) lv q.2 ∧ Most (q.2.1 13) q.1 288) (f_X10_longest N τ lv) := by
  unfold f_X10_longest
  rw [isl h, asked1, if_neg (show ¬ ((1 : Int32), g_sf τ 6 0).1 = 0 from one_ne)]
  have hI6 : Inv (g_sf τ 6 0) := hI.six
  obtain ⟨t, ht, hM⟩ := finds_m hI6.1 hN h
  show Ok _ ((f_X10_findsLines N (g_sf τ 6 0) lv).bind _)
  rw [ht, Option.bind_some]
  obtain ⟨u, hu, y, hy, hm⟩ := most_gen (K := fun x => (x, t)) (g := t.1 13) (N := N) (b := fun (self20 : Int32 → Int32 → Option (Int32 × gSt)) (v2_20 : Int32) (v3_20 : Int32) =>
      if 288 ≤ v3_20 then
        some (v2_20, t)
      else
        if v3_20 < 0 ∨ 288 ≤ v3_20.toNatClampNeg then none else
        gJoin1 (fun (w0_47 : Int32) =>
            self20 w0_47 (v3_20 + 1)) (fun j47 =>
          if g_ga t 13 v3_20 ≤ v2_20 then
            j47 v2_20
          else
            if v3_20 < 0 ∨ 288 ≤ v3_20.toNatClampNeg then none else
            j47 (g_ga t 13 v3_20))) hN (fun self x v h => if_pos h) (fun self x v g1 g2 => by
        have gv : ¬ (v < 0 ∨ 288 ≤ v.toNatClampNeg) := by rw [tlt, tl0, tcl]; omega
        have ev : g_ga t 13 v = t.1 13 v.toInt.toNat := rfl
        rw [if_neg (by rw [tle, tl288]; omega), if_neg gv]
        simp only [gJoin1]
        rw [ev]
        by_cases c : t.1 13 v.toInt.toNat ≤ x
        · rw [if_pos c]
          rw [tle] at c
          exact ⟨x, by omega, rfl⟩
        · rw [if_neg c, if_neg gv]
          rw [tle] at c
          exact ⟨_, by omega, rfl⟩)
  subst hy
  rw [hu]
  exact Ok.some ⟨hM, hm⟩
theorem ml_at {τ : gSt} {lv : Int32} (hI : Inv τ) (h : 1 ≤ lv.toInt ∧ lv.toInt ≤ 255) : ∀ i, gapP τ lv i → mStar τ lv i < 288 := by
  obtain ⟨t, -, hM⟩ := finds_m (N := 289) hI.1 (by omega) h
  exact fun i hi => ml_lt hM hi
theorem sym_lines {τ t : gSt} {N : Nat} {lv : Int32} (hI : Inv τ) (hI' : Inv t) (hN : 288 < N) (h : Tr τ t) : SymR (f_X10_lines N τ lv) (f_X10_lines N t lv) := by
  by_cases c : 1 ≤ lv.toInt ∧ lv.toInt ≤ 255
  · refine SymR.of h (lines_y hI hN c) (lines_y hI' hN c) ?_
    rintro p q ⟨p1, p2⟩ ⟨q1, q2⟩
    refine ⟨p1.trans (Eq.trans (congrArg Int32.ofNat ?_) q1.symm), p2, q2⟩
    exact (NL_tp (Q := fun _ => True) (Q' := fun _ => True) hI.six hI'.six (h.six (x := 0) (y := 0)) (ml_at hI.six c) (ml_at hI'.six c) (fun _ _ => Iff.rfl) (fun _ _ _ _ _ => Iff.rfl)).symm
  · rw [(level_n c N).1, (level_n c N).1]
    exact SymR.no h
theorem sym_rings {τ t : gSt} {N : Nat} {lv : Int32} (hI : Inv τ) (hI' : Inv t) (hN : 288 < N) (h : Tr τ t) : SymR (f_X10_rings N τ lv) (f_X10_rings N t lv) := by
  by_cases c : 1 ≤ lv.toInt ∧ lv.toInt ≤ 255
  · refine SymR.of h (rings_y hI hN c) (rings_y hI' hN c) ?_
    rintro p q ⟨p1, p2⟩ ⟨q1, q2⟩
    refine ⟨p1.trans (Eq.trans (congrArg Int32.ofNat ?_) q1.symm), p2, q2⟩
    refine (NL_tp hI.six hI'.six (h.six (x := 0) (y := 0)) (ml_at hI.six c) (ml_at hI'.six c) (fun i hi => rgQ_tp hI.six hI'.six (h.six (x := 0) (y := 0)) (gapP_lt hi)) (fun i j hi hj he => ?_)).symm
    unfold rgQ
    rw [he]
  · rw [(level_n c N).2.1, (level_n c N).2.1]
    exact SymR.no h
theorem most_le {τ t s s' : gSt} {lv y y' : Int32} (hI : Inv τ) (hI' : Inv t) (h : Tr τ t) (hM : MF τ lv s) (hM' : MF t lv s') (m : Most (s.1 13) y 288) (m' : Most (s'.1 13) y' 288) : y.toInt ≤ y'.toInt := by
  obtain ⟨m1, m2, m3⟩ := m
  obtain ⟨n1, n2, n3⟩ := m'
  rcases m3 with e | ⟨r, hr, e⟩
  · rw [e, tl0]; exact n1
  · by_cases hp : 0 < (s.1 13 r).toInt
    · have hp2 := hp
      rw [hM.2.2 r hr, size_ex] at hp2
      obtain ⟨i, hi, hg, he⟩ := hp2
      have hg' := gap_tp hI.1 h hg
      have := n2 _ (ml_lt hM' hg')
      rw [hM'.2.2 _ (ml_lt hM' hg'), size_tp hI hI' h hi, he, ← hM.2.2 r hr, ← e] at this
      exact this
    · rw [e]; omega
theorem sym_longest {τ t : gSt} {N : Nat} {lv : Int32} (hI : Inv τ) (hI' : Inv t) (hN : 288 < N) (h : Tr τ t) : SymR (f_X10_longest N τ lv) (f_X10_longest N t lv) := by
  by_cases c : 1 ≤ lv.toInt ∧ lv.toInt ≤ 255
  · refine SymR.of h (longest_y hI hN c) (longest_y hI' hN c) ?_
    rintro p q ⟨p1, p2⟩ ⟨q1, q2⟩
    have h6 : Tr (g_sf τ 6 0) (g_sf t 6 0) := h.six
    refine ⟨?_, p1.1, q1.1⟩
    have l1 := most_le hI.six hI'.six h6 p1 q1 p2 q2
    have l2 := most_le hI'.six hI.six (h6.symm hI.six) q1 p1 q2 p2
    rw [teq]
    omega
  · rw [(level_n c N).2.2, (level_n c N).2.2]
    exact SymR.no h
