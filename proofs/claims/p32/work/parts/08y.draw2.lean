/-! ===== pure: one class's starts, on both sides at once ===== -/
def bC (N : Nat) (k step : Int32) (self13 : Int32 → Int32 → Int32 → gSt → Option (Int32 × gSt)) (v3_13 v4_13 v5_13 : Int32) (s_13 : gSt) : Option (Int32 × gSt) :=
    if s_13.2 10 ≤ v5_13 then
      some (v3_13, s_13)
    else
      if v4_13 = (-1) then
        some (v3_13, s_13)
      else
        (f_X3_leastLot N (gput s_13 19 v4_13 (v5_13 * step)) k (gget (gput s_13 19 v4_13 (v5_13 * step)) 17 v4_13)).bind (fun (r_54 : Int32) =>
        gJoin1 (fun (w0_76 : Int32) =>
            self13 (v5_13 * step) w0_76 (v5_13 + 1) (gput s_13 19 v4_13 (v5_13 * step))) (fun j76 =>
          if r_54 = (-1) then
            (f_X3_leastLot N (gput s_13 19 v4_13 (v5_13 * step)) k (-1)).bind (fun (r_73 : Int32) =>
            j76 r_73)
          else
            j76 r_54))
def bM (N : Nat) (k step : Int32) (K : Int32 → gSt → Option (Int32 × gSt)) (self125 : Int32 → Int32 → Int32 → gSt → Option (Int32 × gSt)) (v4_125 v6_125 v7_125 : Int32) (s_125 : gSt) : Option (Int32 × gSt) :=
                      if v7_125 = (-1) then
                        K v4_125 s_125
                      else
                        if v7_125 < 0 ∨ 24 ≤ v7_125.toNatClampNeg then none else
                        gJoin1 (fun (w0_154 : Int32) =>
                            if v7_125 < 0 ∨ 24 ≤ v7_125.toNatClampNeg then none else
                            (f_X10_next N (g_pa s_125 8 v7_125 v6_125) k (g_ga (g_pa s_125 8 v7_125 v6_125) 7 v7_125)).bind (fun (r_172 : Int32) =>
                            self125 w0_154 (v6_125 + step) r_172 (g_pa s_125 8 v7_125 v6_125))) (fun j154 =>
                          if v6_125 ≤ v4_125 then
                            j154 v4_125
                          else
                            j154 v6_125)
theorem startK {n N : Nat} {s0 t0 : gSt} {k step acc0 : Int32} {K : Int32 → gSt → Option (Int32 × gSt)} (hN : 24 < N) (hn : n ≤ 24) (hst : 1 ≤ step.toInt ∧ step.toInt ≤ 10) (h30 : (t0.2 3).toInt = n) (ha0 : 0 ≤ acc0.toInt) : ∀ (m nC nM : Nat) (v3 v4 v5 : Int32) (s t : gSt) (acc : Int32), m < nC → m < nM →
    (0 ≤ v5.toInt ∧ v5.toInt ≤ n) → (m : Int) = n - v5.toInt → (0 ≤ v3.toInt ∧ v3.toInt ≤ v5.toInt * step.toInt) → acc = jmax acc0 v3 → DR n s t → KD s0 t0 s t → SD n t → (cnt (fun i => t.1 6 i = k ∧ t.1 8 i ≠ -1) n : Int) = v5.toInt →
    (v4 = -1 ∨ (0 ≤ v4.toInt ∧ v4.toInt < n ∧ candM t k v4.toInt.toNat)) → (v4 = -1 → ∀ i, i < n → ¬ candM t k i) →
    ∃ z s' t', gLoop4 (bC N k step) nC v3 v4 v5 s = some (z, s') ∧ gLoop4 (bM N k step K) nM acc (v5 * step) v4 t = K (jmax acc0 z) t' ∧ DR n s' t' ∧ KD s0 t0 s' t' ∧ SD n t' ∧ (∀ i, i < n → ¬ candM t' k i) ∧ 0 ≤ z.toInt ∧ (∀ i, i < n → t.1 8 i ≠ -1 → t'.1 8 i ≠ -1) ∧ (∀ i, i < n → t.1 6 i ≠ k → t'.1 8 i = t.1 8 i) := by
  intro m
  induction m with
  | zero =>
    intro nC nM v3 v4 v5 s t acc h1 h2 h5 hm h3 hacc hD hK hS hc hv hno
    obtain ⟨nC, rfl⟩ : ∃ x, nC = x + 1 := ⟨nC - 1, by omega⟩
    obtain ⟨nM, rfl⟩ : ∃ x, nM = x + 1 := ⟨nM - 1, by omega⟩
    have full := cnt_full n (show cnt (fun i => t.1 6 i = k ∧ t.1 8 i ≠ -1) n = n by omega)
    have e4 : v4 = -1 := by
      rcases hv with h | ⟨a, b, c⟩
      · exact h
      · exact absurd c.2 (full _ (by omega)).2
    refine ⟨v3, s, t, ?_, ?_, hD, hK, hS, hno e4, h3.1, fun _ _ h => h, fun _ _ _ => rfl⟩
    · show bC N k step _ _ _ _ _ = _
      unfold bC
      rw [if_pos (by rw [tle, hD.2.2.2.2.2.1]; omega)]
    · show bM N k step K _ _ _ _ _ = _
      unfold bM
      rw [if_pos e4, hacc]
  | succ m ih =>
    intro nC nM v3 v4 v5 s t acc h1 h2 h5 hm h3 hacc hD hK hS hc hv hno
    obtain ⟨nC, rfl⟩ : ∃ x, nC = x + 1 := ⟨nC - 1, by omega⟩
    obtain ⟨nM, rfl⟩ : ∃ x, nM = x + 1 := ⟨nM - 1, by omega⟩
    by_cases e4 : v4 = -1
    · refine ⟨v3, s, t, ?_, ?_, hD, hK, hS, hno e4, h3.1, fun _ _ h => h, fun _ _ _ => rfl⟩
      · show bC N k step _ _ _ _ _ = _
        unfold bC
        rw [if_pos e4, ite_self]
      · show bM N k step K _ _ _ _ _ = _
        unfold bM
        rw [if_pos e4, hacc]
    · obtain ⟨a, b, c⟩ := hv.elim (fun h => absurd h e4) id
      have hD2 := hD.put (x := v5 * step) hn a b
      have hK2 := hK.put (x := v5 * step) hn a b h30
      obtain ⟨r, q, p1, p2, p3, p4, p5, p6⟩ := pick_eq (k := k) (av := t.1 7 v4.toInt.toNat) hN hn hD2
      have e5 := inc1 (v := v5) (n := 24) (by omega) (by omega)
      have mb : 0 ≤ v5.toInt * step.toInt := Int.mul_nonneg (by omega) (by omega)
      have mb2 : v5.toInt * step.toInt ≤ 23 * 10 := Int.mul_le_mul (by omega) (by omega) (by omega) (by omega)
      have ex : (v5 * step).toInt = v5.toInt * step.toInt := tmul (by omega)
      have ev6 : (v5 + 1) * step = v5 * step + step := by
        have e : (v5.toInt + 1) * step.toInt = v5.toInt * step.toInt + step.toInt := by rw [Int.add_mul, Int.one_mul]
        rw [teq, tmul (by rw [e5, e]; omega), e5, e, tadd (by rw [ex]; omega), ex]
      have kk : candM t k v4.toInt.toNat := c
      have t6 : (g_pa t 8 v4 (v5 * step)).1 6 = t.1 6 := by rw [pa_1, if_neg (by decide)]
      have t8 : ∀ i, (g_pa t 8 v4 (v5 * step)).1 8 i = if i = v4.toInt.toNat then v5 * step else t.1 8 i := fun i => by rw [pa_1, if_pos rfl, upd_at]
      have xm : v5 * step ≠ -1 := fun e => by rw [e, tlm1] at ex; omega
      have mb3 : (v5.toInt + 1) * step.toInt = v5.toInt * step.toInt + step.toInt := by rw [Int.add_mul, Int.one_mul]
      obtain ⟨z, s', t', i1, i2, i3, i4, i5, i6, i7, i8, i9⟩ := ih nC nM (v5 * step) (if r = -1 then q else r) (v5 + 1) (gput s 19 v4 (v5 * step)) (g_pa t 8 v4 (v5 * step)) (jmax acc0 (v5 * step)) (by omega) (by omega) (by rw [e5]; omega) (by rw [e5]; omega) (by rw [e5, mb3, ex]; omega) rfl hD2 hK2 (fun i hi => by
          rw [t8]
          split
          · rw [ex]; omega
          · exact hS i hi) (by
          have := cnt_add (p := fun i => t.1 6 i = k ∧ t.1 8 i ≠ -1) (q := fun i => (g_pa t 8 v4 (v5 * step)).1 6 i = k ∧ (g_pa t 8 v4 (v5 * step)).1 8 i ≠ -1) (r := v4.toInt.toNat) (fun g => g.2 c.2) (fun i => by
            rw [t6, t8]
            by_cases e : i = v4.toInt.toNat
            · rw [if_pos e]
              exact ⟨fun _ => Or.inr e, fun _ => ⟨by rw [e]; exact c.1, xm⟩⟩
            · rw [if_neg e]
              exact ⟨Or.inl, fun g => g.elim id (fun g => absurd g e)⟩) n
          rw [if_pos (by omega)] at this
          rw [this, e5]
          omega) p5 p6
      refine ⟨z, s', t', ?_, ?_, i3, i4, i5, i6, i7, fun i hi h => i8 i hi ?_, fun i hi h => (i9 i hi h).trans ?_⟩
      · show bC N k step _ _ _ _ _ = _
        unfold bC
        have eg : gget (gput s 19 v4 (v5 * step)) 17 v4 = t.1 7 v4.toInt.toNat := by
          rw [gget_in a (by rw [len30.2.2.2.2.2.1]; omega), hD2.2.1, pa_1, if_neg (by decide)]
        rw [if_neg (by rw [tle, hD.2.2.2.2.2.1]; omega), if_neg e4, eg, p1, Option.bind_some]
        simp only [gJoin1]
        by_cases hr : r = -1
        · rw [if_pos hr, p2, Option.bind_some]
          rw [if_pos hr] at i1
          exact i1
        · rw [if_neg hr]
          rw [if_neg hr] at i1
          exact i1
      · show bM N k step K _ _ _ _ _ = _
        unfold bM
        have gv : ¬ (v4 < 0 ∨ 24 ≤ v4.toNatClampNeg) := by rw [tlt, tl0, tcl]; omega
        have eg : g_ga (g_pa t 8 v4 (v5 * step)) 7 v4 = t.1 7 v4.toInt.toNat := rfl
        simp only [gJoin1]
        rw [if_neg e4, if_neg gv, if_neg gv, if_neg gv, eg, p3]
        simp only [Option.bind_some]
        rw [ev6] at i2
        by_cases hc2 : v5 * step ≤ acc
        · rw [if_pos hc2, ← i2]
          have : acc = jmax acc0 (v5 * step) := by
            rw [hacc, tle, tmax] at hc2
            rw [hacc, teq, tmax, tmax]
            omega
          rw [this]
          rfl
        · rw [if_neg hc2, ← i2]
          have : v5 * step = jmax acc0 (v5 * step) := by
            rw [hacc, tle, tmax] at hc2
            rw [teq, tmax]
            omega
          rw [← this]
          rfl
      · rw [t8]
        split
        · exact xm
        · exact h
      · rw [t8, if_neg (fun e => h (by rw [e]; exact c.1))]
