/-! ===== pure: the class's ranks, best splits and lost times ===== -/
/-- the state of the class behind a reckoning -/
def CS (τ : gSt) (n : Nat) (s : gSt) : Prop := Rel s τ ∧ (s.2 10).toInt = n ∧ (∀ i, i < n → RF (cor τ) i) ∧ n ≤ 24 ∧ ∀ i, i < n → (s.1 25 i).toInt = cT (cor τ) i ∧ s.1 26 i = stF (cor τ) i ∧ s.1 27 i = tot (cor τ) i ∧ ∀ g, g + 1 < lL (cor τ) i → s.1 24 (6 * i + g) = spl (cor τ) i g
theorem CS_of {σ τ s : gSt} {n : Nat} (hR : Rel σ τ) (hn : (τ.2 3).toInt = n) (h : RC σ (cor τ) n s) : CS τ n s :=
  ⟨hR.kz h.1, by rw [h.1.2 10, hR.1.2.2.2.2.2.1]; exact hn, fun i hi => RF_of hR.2 (by omega), by have := hR.2.2.2.2.1.2.1; omega, h.2⟩
theorem c26 {τ s : gSt} {n i : Nat} {x : Int32} (h : CS τ n s) (hx : x.toInt = i) (hi : i < n) : gget s 26 x = stF (cor τ) i := by
  have := h.2.2.2.1
  rw [gget_in (by omega) (by rw [len5.2.2.2.1]; omega), hx]
  exact (h.2.2.2.2 i hi).2.1
theorem c27 {τ s : gSt} {n i : Nat} {x : Int32} (h : CS τ n s) (hx : x.toInt = i) (hi : i < n) : gget s 27 x = tot (cor τ) i := by
  have := h.2.2.2.1
  rw [gget_in (by omega) (by rw [len5.2.2.2.2]; omega), hx]
  exact (h.2.2.2.2 i hi).2.2.1
theorem c24 {τ s : gSt} {n i g : Nat} {x v : Int32} (h : CS τ n s) (hx : x.toInt = i) (hi : i < n) (hv : v.toInt = g) (hg : g + 1 < lL (cor τ) i) : f_X5_splitMinutes s x v = spl (cor τ) i g := by
  have h24 := h.2.2.2.1
  have hL6 := (h.2.2.1 i hi).2.2.2.2.1
  have e6 : (x * 6).toInt = 6 * i := by rw [tmul (by rw [tl6]; omega), tl6, hx]; omega
  have ep : (x * 6 + v).toInt = 6 * i + g := by rw [tadd (by rw [e6]; omega), e6, hv]
  unfold f_X5_splitMinutes
  rw [gget_in (by omega) (by rw [len5.2.1]; omega), ep]
  exact (h.2.2.2.2 i hi).2.2.2 g hg
theorem place_c {τ s : gSt} {N n i : Nat} {x : Int32} (h : CS τ n s) (hN : 30 < N) (hx : x.toInt = i) (hi : i < n) : Ok (fun r => r = (if tot (cor τ) i = -1 then -1 else rkF (cor τ) i n)) (f_X5_place N s x) := by
  obtain ⟨hR, hn, hA, h24, hs⟩ := id h
  have ti := tot_or (hA i hi)
  unfold f_X5_place
  rw [c26 h hx hi, c27 h hx hi]
  by_cases c : stF (cor τ) i = 1
  · have ht : tot (cor τ) i ≠ -1 := by
      rcases ti with q | q
      · exact q.2.1
      · exact absurd c q.1
    rw [if_neg ht]
    refine okt c ?_
    refine gLoop2_ok (fun m (v2 v3 : Int32) => ∃ k : Nat, k ≤ n ∧ (m : Int) = 24 - k ∧ v3.toInt = k ∧ v2 = rkF (cor τ) i k) ?_ N 24 1 0 (by omega) ⟨0, by omega, by omega, rfl, rfl⟩
    intro m v2 v3 self ⟨k, hk, hm, h3, h2⟩ ih
    show Ok _ (if f_X3_count s ≤ v3 then _ else _)
    unfold f_X3_count
    by_cases c1 : s.2 10 ≤ v3
    · refine okt c1 (Ok.some ?_)
      rw [tle, hn, h3] at c1
      rw [h2, show k = n by omega]
    · refine okf c1 (okz (ok0 ?_))
      rw [tle, hn, h3] at c1
      have e1 := inc1 (v := v3) (n := 24) (by omega) (by omega)
      have hk2 : k < n := by omega
      have tk := tot_or (hA k hk2)
      rw [c26 h h3 hk2, c27 h h3 hk2, klass_c hR h3 (by omega), klass_c hR hx (by omega)]
      have hnext : rkF (cor τ) i (k + 1) = rkF (cor τ) i k + (if cor τ 6 k = cor τ 6 i then if tot (cor τ) k = -1 then 0 else if tot (cor τ) i ≤ tot (cor τ) k then 0 else 1 else 0) := rfl
      have z0 : ∀ w : Int32, w + 0 = w := fun w => Int32.add_zero w
      have same : (if cor τ 6 k = cor τ 6 i then if tot (cor τ) k = -1 then (0 : Int32) else if tot (cor τ) i ≤ tot (cor τ) k then 0 else 1 else 0) = 0 → Ok (fun r => r = rkF (cor τ) i n) (self v2 (v3 + 1)) := fun e => ih (m - 1) v2 (v3 + 1) (by omega) ⟨k + 1, by omega, by omega, by omega, by rw [hnext, e, z0]; exact h2⟩
      by_cases c2 : stF (cor τ) k = 1
      · have tk2 : tot (cor τ) k ≠ -1 := by
          rcases tk with q | q
          · exact q.2.1
          · exact absurd c2 q.1
        refine okt c2 ?_
        by_cases c3 : cor τ 6 k = cor τ 6 i
        · rw [if_pos c3, if_neg tk2] at same hnext
          refine okt c3 (okz (okf one_ne ?_))
          by_cases c4 : tot (cor τ) i ≤ tot (cor τ) k
          · exact okt c4 (same (by rw [if_pos c4]))
          · exact okf c4 (ih (m - 1) (v2 + 1) (v3 + 1) (by omega) ⟨k + 1, by omega, by omega, by omega, by rw [hnext, if_neg c4, h2]⟩)
        · exact okf c3 (okz (okt rfl (same (by rw [if_neg c3]))))
      · refine okf c2 (okz (okt rfl (same ?_)))
        rcases tk with q | q
        · exact absurd q.1 c2
        · rw [if_pos q.2, ite_self]
  · refine okf c (Ok.some ?_)
    rcases ti with q | q
    · exact absurd q.1 c
    · rw [if_pos q.2]
theorem between_c {τ s : gSt} {N n i : Nat} {x f t : Int32} (h : CS τ n s) (hN : 30 < N) (hx : x.toInt = i) (hi : i < n) : Ok (fun r => r = sbF (cor τ) i f t (lL (cor τ) i - 1)) (f_X5_splitBetween N s x f t) := by
  obtain ⟨hR, hn, hA, h24, hs⟩ := id h
  have hAi := hA i hi
  have r4 := hAi.2.2.2.1
  have r5 := hAi.2.2.2.2.1
  have hl := legs_c hR hAi
  unfold f_X5_splitBetween
  rw [klass_c hR hx (by omega)]
  refine gLoop1_ok (fun m (v5 : Int32) => ∃ g : Nat, g ≤ lL (cor τ) i - 1 ∧ (m : Int) = 6 - g ∧ v5.toInt = g ∧ ∀ q, q < g → ¬ mt (cor τ) i f t q) ?_ N 6 0 (by omega) ⟨0, by omega, by omega, rfl, fun q hq => by omega⟩
  intro m v5 self ⟨g, hg, hm, h5, hno⟩ ih
  by_cases c1 : f_X2_legs s (cor τ 6 i) ≤ v5
  · refine okt c1 (Ok.some ?_)
    rw [tle, hl, h5] at c1
    rw [show lL (cor τ) i - 1 = g by omega]
    exact (sb_none g hno).symm
  · refine okf c1 (ok0 ?_)
    rw [tle, hl, h5] at c1
    have e1 := inc1 (v := v5) (n := 6) (by omega) (by omega)
    rw [cat_c hR hAi h5 (by omega), cat_c hR hAi (v := v5 + 1) (j := g + 1) (by omega) (by omega)]
    have skip : ¬ mt (cor τ) i f t g → Ok (fun r => r = sbF (cor τ) i f t (lL (cor τ) i - 1)) (self (v5 + 1)) := fun e => ih (m - 1) (v5 + 1) (by omega) ⟨g + 1, by omega, by omega, by omega, fun q hq => by
      by_cases e2 : q = g
      · rw [e2]; exact e
      · exact hno q (by omega)⟩
    by_cases c2 : cR (cor τ) i g = f
    · refine okt c2 ?_
      by_cases c3 : cR (cor τ) i (g + 1) = t
      · refine okt c3 (Ok.some ?_)
        have := sb_first hAi (m := lL (cor τ) i - 1) (by omega) (show mt (cor τ) i f t g from ⟨c2, c3⟩) (lL (cor τ) i - 1 - (g + 1)) (by omega)
        rw [show g + 1 + (lL (cor τ) i - 1 - (g + 1)) = lL (cor τ) i - 1 by omega] at this
        rw [this]
        exact c24 h hx hi h5 (by omega)
      · exact okf c3 (skip (fun e => c3 e.2))
    · exact okf c2 (skip (fun e => c2 e.1))
theorem best_c {τ s : gSt} {N n i g : Nat} {v : Int32} (h : CS τ n s) (hN : 30 < N) (hi : i < n) (hv : v.toInt = g) (hg : g + 1 < lL (cor τ) i) : Ok (fun r => r = bF (cor τ) (cR (cor τ) i g) (cR (cor τ) i (g + 1)) n) (f_X5_bestSplit N s (cor τ 6 i) v) := by
  obtain ⟨hR, hn, hA, h24, hs⟩ := id h
  have hAi := hA i hi
  have r5 := hAi.2.2.2.2.1
  have e1 := inc1 (v := v) (n := 6) (by omega) (by omega)
  unfold f_X5_bestSplit
  rw [cat_c hR hAi hv (by omega), cat_c hR hAi (v := v + 1) (j := g + 1) (by omega) (by omega)]
  generalize cR (cor τ) i g = f
  generalize cR (cor τ) i (g + 1) = t
  refine gLoop2_ok (fun m (v5 v6 : Int32) => ∃ k : Nat, k ≤ n ∧ (m : Int) = 24 - k ∧ v6.toInt = k ∧ v5 = bF (cor τ) f t k) ?_ N 24 (-1) 0 (by omega) ⟨0, by omega, by omega, rfl, rfl⟩
  intro m v5 v6 self ⟨k, hk, hm, h6, h5⟩ ih
  show Ok _ (if f_X3_count s ≤ v6 then _ else _)
  unfold f_X3_count
  by_cases c1 : s.2 10 ≤ v6
  · refine okt c1 (Ok.some ?_)
    rw [tle, hn, h6] at c1
    rw [h5, show k = n by omega]
  · refine okf c1 (okz ?_)
    rw [tle, hn, h6] at c1
    have e6 := inc1 (v := v6) (n := 24) (by omega) (by omega)
    have hk2 : k < n := by omega
    rw [c26 h h6 hk2]
    have hnext : bF (cor τ) f t (k + 1) = (if stF (cor τ) k = 1 then comb (bF (cor τ) f t k) (sbF (cor τ) k f t (lL (cor τ) k - 1)) else bF (cor τ) f t k) := rfl
    have go : ∀ w, w = bF (cor τ) f t (k + 1) → Ok (fun r => r = bF (cor τ) f t n) (self w (v6 + 1)) := fun w hw => ih (m - 1) w (v6 + 1) (by omega) ⟨k + 1, by omega, by omega, by omega, hw⟩
    by_cases c2 : stF (cor τ) k = 1
    · rw [if_pos c2] at hnext
      refine okt c2 ((between_c h hN h6 hk2).bind (fun r hr => okz ?_))
      by_cases c3 : r = -1
      · refine okt c3 (go v5 ?_)
        rw [hnext, ← hr, c3, comb_no, h5]
      · refine okf c3 (ok0 ?_)
        by_cases c4 : v5 = -1
        · refine okt c4 (go r ?_)
          rw [hnext, ← hr, ← h5]
          unfold comb
          rw [if_neg c3, if_pos c4]
        · refine okf c4 ?_
          by_cases c5 : v5 ≤ r
          · refine okt c5 (go v5 ?_)
            rw [hnext, ← hr, ← h5]
            unfold comb
            rw [if_neg c3, if_neg c4, if_pos c5]
          · refine okf c5 (go r ?_)
            rw [hnext, ← hr, ← h5]
            unfold comb
            rw [if_neg c3, if_neg c4, if_neg c5]
    · rw [if_neg c2] at hnext
      exact okf c2 (okz (okt rfl (go v5 (hnext ▸ h5))))
theorem jmax_b0 {x : Int32} (h : okS x) : jmax 0 x = b0 x := by
  unfold b0
  by_cases c : x = -1
  · rw [if_pos c, c]
    rfl
  · rw [if_neg c, teq, tmax, tl0]
    have := h.resolve_left c
    omega
theorem pace_c {τ s : gSt} {N n i : Nat} {x : Int32} (h : CS τ n s) (hN : 30 < N) (hx : x.toInt = i) (hi : i < n) (hr : stF (cor τ) i = 1) : Ok (fun r => r.toInt = paceF (cor τ) n i) (f_X5_pace N s x) := by
  obtain ⟨hR, hn, hA, h24, hs⟩ := id h
  have hAi := hA i hi
  have r4 := hAi.2.2.2.1
  have r5 := hAi.2.2.2.2.1
  have hl := legs_c hR hAi
  unfold f_X5_pace
  rw [klass_c hR hx (by omega), c27 h hx hi]
  refine gLoop2_ok (fun m (v3 v4 : Int32) => ∃ g : Nat, g ≤ lL (cor τ) i - 1 ∧ (m : Int) = 6 - g ∧ v4.toInt = g ∧ v3 = sm (cor τ) n i g) ?_ N 6 0 0 (by omega) ⟨0, by omega, by omega, rfl, rfl⟩
  intro m v3 v4 self ⟨g, hg, hm, h4, h3⟩ ih
  by_cases c1 : f_X2_legs s (cor τ 6 i) ≤ v4
  · refine okt c1 ?_
    rw [tle, hl, h4] at c1
    have hgL : g = lL (cor τ) i - 1 := by omega
    have hsm := sm_in (i := i) hA g (by omega)
    rw [← h3] at hsm
    by_cases c2 : v3 ≤ 0
    · refine okt c2 (Ok.some ?_)
      rw [tle, tl0] at c2
      unfold paceF
      rw [← hgL, ← h3, if_pos (by omega)]
      rfl
    · refine okf c2 ?_
      rw [tle, tl0] at c2
      refine okf (fun e => by rw [e, tl0] at c2; omega) (Ok.some ?_)
      rcases tot_or hAi with ⟨_, _, q1, q2⟩ | ⟨q, _⟩
      · have em : (1000 * tot (cor τ) i).toInt = 1000 * (tot (cor τ) i).toInt := by rw [tmul (by rw [tl1000]; omega), tl1000]
        unfold paceF
        rw [← hgL, ← h3, if_neg (by omega), tdiv' (by rw [em]; omega) (by omega), em]
      · exact absurd hr q
  · refine okf c1 (okz ?_)
    rw [tle, hl, h4] at c1
    have e4 := inc1 (v := v4) (n := 6) (by omega) (by omega)
    rw [void_c hR hAi h4 (by omega)]
    have hnext : sm (cor τ) n i (g + 1) = sm (cor τ) n i g + bs (cor τ) n i g := rfl
    by_cases c2 : vo (cor τ) i g = 0
    · refine okt c2 ((best_c h hN hi h4 (by omega)).bind (fun r hr => ?_))
      refine ih (m - 1) _ (v4 + 1) (by omega) ⟨g + 1, by omega, by omega, by omega, ?_⟩
      rw [hnext, h3, hr, jmax_b0 (bF_ok n hA)]
      unfold bs
      rw [if_pos c2]
    · refine okf c2 (ih (m - 1) _ (v4 + 1) (by omega) ⟨g + 1, by omega, by omega, by omega, ?_⟩)
      rw [hnext, h3]
      unfold bs
      rw [if_neg c2]
theorem lost_c {τ s : gSt} {N n i g : Nat} {x v : Int32} (h : CS τ n s) (hN : 30 < N) (hx : x.toInt = i) (hi : i < n) (hv : v.toInt = g) (hg : g + 1 < lL (cor τ) i) : Ok (fun r => if tot (cor τ) i = -1 then r = -1 else if vo (cor τ) i g = 0 then r.toInt = loF (cor τ) n i g else r = -1) (f_X5_lostMinutes N s x v) := by
  obtain ⟨hR, hn, hA, h24, hs⟩ := id h
  have hAi := hA i hi
  have ti := tot_or hAi
  unfold f_X5_lostMinutes
  rw [c26 h hx hi, klass_c hR hx (by omega), void_c hR hAi hv hg, c24 h hx hi hv hg]
  by_cases c : stF (cor τ) i = 1
  · have ht : tot (cor τ) i ≠ -1 := by
      rcases ti with q | q
      · exact q.2.1
      · exact absurd c q.1
    refine okt c ?_
    by_cases c2 : vo (cor τ) i g = 0
    · refine Ok.mono (P := fun (r : Int32) => r.toInt = loF (cor τ) n i g) ?_ (fun r hr => by rw [if_neg ht, if_pos c2]; exact hr)
      refine okt c2 ((best_c h hN hi hv hg).bind (fun b hb => (pace_c h hN hx hi c).bind (fun p hp => Ok.some ?_)))
      have hsb := spl_is hAi c c2 hg
      have hne : spl (cor τ) i g ≠ -1 := fun e => by rw [e, tlm1] at hsb; omega
      have hsf : sbF (cor τ) i (cR (cor τ) i g) (cR (cor τ) i (g + 1)) (lL (cor τ) i - 1) ≠ -1 := by
        have := sb_first hAi (m := lL (cor τ) i - 1) (by omega) (show mt (cor τ) i (cR (cor τ) i g) (cR (cor τ) i (g + 1)) g from ⟨rfl, rfl⟩) (lL (cor τ) i - 1 - (g + 1)) (by omega)
        rw [show g + 1 + (lL (cor τ) i - 1 - (g + 1)) = lL (cor τ) i - 1 by omega] at this
        rw [this]
        exact hne
      have hbn := bF_is c hsf n hi
      have hbs : bs (cor τ) n i g = b := by
        unfold bs b0
        rw [if_pos c2, if_neg hbn, hb]
      have hp2 := pace_in (g := g) hA hi c hg
      have em : (b * p).toInt = (bs (cor τ) n i g).toInt * paceF (cor τ) n i := by rw [tmul (by rw [← hbs, hp]; omega), hbs, hp]
      have ed : ((b * p) / 1000).toInt = (bs (cor τ) n i g).toInt * paceF (cor τ) n i / 1000 := by
        rw [tdiv' (by rw [em]; omega) (by rw [tl1000]; omega), em, tl1000]
      show (jmax 0 (spl (cor τ) i g - (b * p) / 1000)).toInt = _
      rw [tmax, tsub (by rw [ed]; omega), ed, tl0]
      rfl
    · exact okf c2 (Ok.some (by rw [if_neg ht, if_neg c2]))
  · refine okf c (Ok.some ?_)
    rcases ti with q | q
    · exact absurd q.1 c
    · rw [if_pos q.2]
