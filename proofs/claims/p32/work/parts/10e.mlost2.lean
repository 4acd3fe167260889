/-! ===== pure: the reference's lost time, with its long numbers ===== -/
theorem lbm {z : Int} (h : -9223372036854775808 ≤ z ∧ z < 9223372036854775808) : z.bmod (2 ^ 64) = z := Int.bmod_eq_of_le (by omega) (by omega)
theorem lmul {x y : Int64} (h : -9223372036854775808 ≤ x.toInt * y.toInt ∧ x.toInt * y.toInt < 9223372036854775808) : (x * y).toInt = x.toInt * y.toInt := by rw [Int64.toInt_mul, lbm h]
theorem ldiv {x y : Int64} (h : 0 ≤ x.toInt) (h2 : 0 < y.toInt) : (x / y).toInt = x.toInt / y.toInt := by
  rw [Int64.toInt_div_of_ne_right _ _ (by rintro rfl; simp at h2), Int.tdiv_eq_ediv_of_nonneg h]
theorem ll1000 : (1000 : Int64).toInt = 1000 := rfl
theorem lof (x : Int32) : x.toInt64.toInt = x.toInt := Int32.toInt_toInt64 x
theorem lto {x : Int64} (h : -2147483648 ≤ x.toInt ∧ x.toInt < 2147483648) : x.toInt32.toInt = x.toInt := by rw [Int64.toInt_toInt32, bm h]
/-- a leg of the runner's course -/
def isG (A : Nat → Nat → Int32) (i : Nat) (v : Int32) : Prop := 0 ≤ v.toInt ∧ v.toInt + 1 < lL A i
theorem leg_m {τ : gSt} {N i : Nat} {x v : Int32} (hI : Inv τ) (hx : x.toInt = i) (hi : (i : Int) < (τ.2 3).toInt) : (isG (cor τ) i v → f_X10_isLeg N τ x v = some 1) ∧ (¬ isG (cor τ) i v → f_X10_isLeg N τ x v = some 0) := by
  have hA := RF_of hI hi
  have i24 : i < 24 := by have := hI.2.2.2.1.2.1; omega
  obtain ⟨k1, k2, k3, k4⟩ := run_at (s := τ) Km.rf hx hA
  have r4 := hA.2.2.2.1
  have r5 := hA.2.2.2.2.1
  have e2 : (g_ga τ 5 (g_ga τ 6 x) - 2).toInt = lL (cor τ) i - 2 := by rw [tsub (by rw [k3, tl2]; omega), k3, tl2]
  unfold f_X10_isLeg isG
  rw [run_yes hI.2.2.2.1 (show isR τ x from ⟨by omega, by omega⟩), if_neg one_ne, if_neg (gd (x := x) (n := 24) (by omega) (by omega)), if_neg (gd (n := 5) k1.1 k1.2)]
  refine ⟨fun h => ?_, fun h => ?_⟩
  · rw [in_yes (by rw [tl0]; omega) (by rw [e2]; omega), if_neg one_ne]
  · rw [in_no (by rw [tl0, e2]; omega), if_pos rfl]
theorem leg_m0 {τ : gSt} {N : Nat} {x v : Int32} (hI : Inv τ) (hx : ¬ isR τ x) : f_X10_isLeg N τ x v = some 0 := by
  unfold f_X10_isLeg
  rw [run_no hI.2.2.2.1 hx, if_pos rfl]
theorem lost_m {τ : gSt} {N i n g : Nat} {x v : Int32} (hI : Inv τ) (hN : 30 < N) (hx : x.toInt = i) (hn : (τ.2 3).toInt = n) (hi : i < n) (hv : v.toInt = g) (hg : g + 1 < lL (cor τ) i) : Ok (fun q => (if tot (cor τ) i = -1 then q.1 = -1 else if vo (cor τ) i g = 0 then q.1.toInt = loF (cor τ) n i g else q.1 = -1) ∧ Km (g_sf τ 6 0) q.2) (f_X10_lost N τ x v) := by
  have hI0 : Inv (g_sf τ 6 0) := hI
  have n24 : n ≤ 24 := by have := hI.2.2.2.1.2.1; omega
  have hA := RF_of hI (i := i) (by omega)
  have hAll : ∀ i, i < n → RF (cor τ) i := fun i hi => RF_of hI (by omega)
  have hc : cor (g_sf τ 6 0) = cor τ := rfl
  have i24 : i < 24 := by omega
  have r2 := hA.2.1
  have r5 := hA.2.2.2.2.1
  have gx := gd (x := x) (n := 24) (by omega) (by omega)
  unfold f_X10_lost
  refine okb ((leg_m hI hx (by omega)).1 ⟨by omega, by omega⟩) ?_
  rw [asked1]
  refine okf one_ne ((total_m hI0 hN hx (by show (i : Int) < (τ.2 3).toInt; omega)).bind (fun q hq => ?_))
  obtain ⟨T, s⟩ := q
  obtain ⟨hT, hM⟩ := hq
  dsimp only at hT hM ⊢
  rw [hc] at hT hM
  have hK : Km (g_sf τ 6 0) s := hM.1
  by_cases c : T = -1
  · exact okt c (Ok.some ⟨by rw [if_pos (hT.symm.trans c)], hK⟩)
  · have c' : ¬ tot (cor τ) i = -1 := fun e => c (hT.trans e)
    refine okf c ?_
    have hv0 := void_m (N := N) hK (show RF (cor (g_sf τ 6 0)) i from hA) hx i24 hv hg
    rw [hc] at hv0
    refine okb hv0 ?_
    by_cases c2 : vo (cor τ) i g = 0
    · refine Ok.mono (P := fun (q : Int32 × gSt) => q.1.toInt = loF (cor τ) n i g ∧ Km (g_sf τ 6 0) q.2) ?_ (fun q hq => ⟨by rw [if_neg c', if_pos c2]; exact hq.1, hq.2⟩)
      refine okt c2 (okf gx ?_)
      obtain ⟨k1, k2, k3, k4⟩ := run_at hK hx (show RF (cor (g_sf τ 6 0)) i from hA)
      rw [hc] at k2 k3 k4
      have hr : stF (cor τ) i = 1 := (tot_or hA).elim (fun h => h.1) (fun h => absurd h.2 c')
      have tb : 0 ≤ T.toInt ∧ T.toInt ≤ 60000 := by
        rcases tot_or hA with h | h
        · rw [hT]; exact h.2.2
        · exact absurd h.2 c'
      refine gLoop4_ok (fun m (v5 v6 v7 : Int32) s2 => ∃ k : Nat, k ≤ lL (cor τ) i - 1 ∧ (m : Int) = 6 - k ∧ v7.toInt = k ∧ v5 = sm (cor τ) n i k ∧ v6 = (if g < k then bs (cor τ) n i g else 0) ∧ Km (g_sf τ 6 0) s2) ?_ N 6 0 0 0 s (by omega) ⟨0, by omega, by omega, rfl, rfl, rfl, hK⟩
      intro m v5 v6 v7 s2 self ⟨k, hk, hm, h7, h5, h6, hK2⟩ ih
      obtain ⟨q1, q2, q3, q4⟩ := run_at hK2 hx (show RF (cor (g_sf τ 6 0)) i from hA)
      rw [hc] at q2 q3 q4
      have gk := gd (x := g_ga s2 6 x) (n := 5) q1.1 q1.2
      have e5 : (g_ga s2 5 (g_ga s2 6 x) - 1).toInt = (lL (cor τ) i - 1 : Nat) := by rw [tsub (by rw [q3, tl1]; omega), q3, tl1]; omega
      have eK : g_ga s 6 x = g_ga s2 6 x := by unfold g_ga; rw [hK.1 6 (by decide), hK2.1 6 (by decide)]
      rw [eK]
      refine okf gx (okf gk ?_)
      by_cases c3 : g_ga s2 5 (g_ga s2 6 x) - 1 ≤ v7
      · refine okt c3 (okz ?_)
        rw [tle, e5, h7] at c3
        have hkL : k = lL (cor τ) i - 1 := by omega
        rw [if_pos (by omega)] at h6
        have hp := pace_in (g := g) hAll hi hr hg
        have hs := sm_in (i := i) hAll k (by omega)
        have hb := bs_in (i := i) (g := g) hAll
        have fin : ∀ w : Int64, w.toInt = paceF (cor τ) n i → Ok (fun (q : Int32 × gSt) => q.1.toInt = loF (cor τ) n i g ∧ Km (g_sf τ 6 0) q.2) ((f_X10_goesThrough N s2 x).bind (fun (q_170 : Int32 × gSt) =>
                (f_X10_splitOf N q_170.2 x v).bind (fun (r_177 : Int32) =>
                if r_177 - (((v6.toInt64 * w) / 1000).toInt32) ≤ 0 then
                  some (0, q_170.2)
                else
                  some (r_177 - (((v6.toInt64 * w) / 1000).toInt32), q_170.2)))) := by
          intro w hw
          have hI2 : Inv s2 := hI0.keep hK2
          have hcc : cor s2 = cor τ := (cor_km hK2).trans hc
          refine (goes_m hI2 hN hx (by rw [hK2.2 3 (by decide)]; show (i : Int) < (τ.2 3).toInt; omega)).bind (fun q hq => ?_)
          obtain ⟨b, s3⟩ := q
          obtain ⟨_, hM3⟩ := hq
          dsimp only at hM3 ⊢
          have hM4 : MG s2 i (thr (cor s2) i (pR (cor s2) i)) s3 := hM3
          have hsp := split_m (N := N) hM4 (by rw [hcc]; exact hA) hx i24 hv (by rw [hcc]; exact hg)
          rw [hcc] at hsp
          refine okb hsp ?_
          have hsb := spl_is hA hr c2 hg
          have em : (v6.toInt64 * w).toInt = (bs (cor τ) n i g).toInt * paceF (cor τ) n i := by
            rw [lmul (by rw [lof, hw, h6]; omega), lof, hw, h6]
          have ed : ((v6.toInt64 * w) / 1000).toInt = (bs (cor τ) n i g).toInt * paceF (cor τ) n i / 1000 := by
            rw [ldiv (by rw [em]; omega) (by rw [ll1000]; omega), em, ll1000]
          have et : ((v6.toInt64 * w) / 1000).toInt32.toInt = (bs (cor τ) n i g).toInt * paceF (cor τ) n i / 1000 := by
            rw [lto (by rw [ed]; omega), ed]
          have eo : (spl (cor τ) i g - ((v6.toInt64 * w) / 1000).toInt32).toInt = (spl (cor τ) i g).toInt - (bs (cor τ) n i g).toInt * paceF (cor τ) n i / 1000 := by
            rw [tsub (by rw [et]; omega), et]
          have hKf : Km (g_sf τ 6 0) s3 := hK2.trans hM3.1
          by_cases c5 : spl (cor τ) i g - ((v6.toInt64 * w) / 1000).toInt32 ≤ 0
          · refine okt c5 (Ok.some ⟨?_, hKf⟩)
            rw [tle, eo, tl0] at c5
            show (0 : Int32).toInt = _
            unfold loF
            rw [tl0]
            omega
          · refine okf c5 (Ok.some ⟨?_, hKf⟩)
            rw [tle, eo, tl0] at c5
            show (spl (cor τ) i g - ((v6.toInt64 * w) / 1000).toInt32).toInt = _
            unfold loF
            rw [eo]
            omega
        by_cases c4 : v5 = 0
        · refine okt c4 (fin 1000 ?_)
          unfold paceF
          rw [if_pos (by rw [← hkL, ← h5, c4]; rfl)]
          rfl
        · have v5z : v5.toInt ≠ 0 := fun e => c4 (teq.mpr (by rw [e]; rfl))
          have v5p : 0 < v5.toInt := by rw [h5] at v5z ⊢; omega
          refine okf c4 (okf (fun e => v5z (by rw [← lof, e]; rfl)) (fin _ ?_))
          have em : (1000 * T.toInt64).toInt = 1000 * T.toInt := by rw [lmul (by rw [lof, ll1000]; omega), lof, ll1000]
          rw [ldiv (by rw [em]; omega) (by rw [lof]; exact v5p), em, lof]
          unfold paceF
          rw [← hkL, ← h5, if_neg v5z, hT]
      · refine okf c3 ?_
        rw [tle, e5, h7] at c3
        have hv1 := void_m (N := N) hK2 (show RF (cor (g_sf τ 6 0)) i from hA) hx i24 h7 (by rw [hc]; omega)
        rw [hc] at hv1
        have e7 := inc1 (v := v7) (n := 6) (by omega) (by omega)
        refine okb hv1 (ok2 ?_)
        have go : ∀ (w : Int32) s3, w = bs (cor τ) n i k → Km (g_sf τ 6 0) s3 → Ok (fun (q : Int32 × gSt) => q.1.toInt = loF (cor τ) n i g ∧ Km (g_sf τ 6 0) q.2) (gJoin1 (fun (w0_137 : Int32) =>
                    self (v5 + w) w0_137 (v7 + 1) s3) (fun j137 =>
                  if v7 = v then
                    j137 w
                  else
                    j137 v6)) := by
          intro w s3 hw hK3
          refine okz ?_
          have hsm : sm (cor τ) n i (k + 1) = sm (cor τ) n i k + bs (cor τ) n i k := rfl
          by_cases c4 : v7 = v
          · have hgk : k = g := by rw [teq, h7, hv] at c4; omega
            exact okt c4 (ih (m - 1) _ _ (v7 + 1) s3 (by omega) ⟨k + 1, by omega, by omega, by rw [e7]; omega, by rw [hsm, h5, hw], by rw [if_pos (by omega), hw, hgk], hK3⟩)
          · have hgk : k ≠ g := fun e => c4 (teq.mpr (by rw [h7, hv, e]))
            refine okf c4 (ih (m - 1) _ _ (v7 + 1) s3 (by omega) ⟨k + 1, by omega, by omega, by rw [e7]; omega, by rw [hsm, h5, hw], ?_, hK3⟩)
            rw [h6]
            by_cases q : g < k
            · rw [if_pos q, if_pos (by omega)]
            · rw [if_neg q, if_neg (by omega)]
        by_cases c4 : vo (cor τ) i k = 0
        · obtain ⟨ec, eg⟩ := crs_at (s := s2) hK2 (show RF (cor (g_sf τ 6 0)) i from hA) q1 q2 h7 (by omega)
          rw [hc] at ec eg
          have ec1 := inc1 (v := 6 * g_ga s2 6 x + v7) (n := 30) (by rw [ec]; omega) (by omega)
          have eg1 : g_ga s2 4 (6 * g_ga s2 6 x + v7 + 1) = cR (cor τ) i (k + 1) := by
            rw [ga_at (n := 6 * kL (cor τ) i + (k + 1)) (by rw [ec1, ec]; omega), hK2.1 4 (by decide)]
            unfold cR
            rw [cor_at (by decide)]
            rfl
          refine okt c4 (okf (gd (by rw [ec]; omega) (by rw [ec]; omega)) (okf (gd (by rw [ec1, ec]; omega) (by rw [ec1, ec]; omega)) ?_))
          rw [eg, eg1]
          refine (best_m (hI0.keep hK2) hN (n := n) (by rw [hK2.2 3 (by decide)]; exact hn)).bind (fun q hq => ?_)
          obtain ⟨w, s3⟩ := q
          obtain ⟨hw, hK3⟩ := hq
          dsimp only at hw hK3 ⊢
          rw [cor_km hK2, hc] at hw
          exact go w s3 (by unfold bs; rw [if_pos c4]; exact hw) (hK2.trans hK3)
        · exact okf c4 (go 0 s2 (by unfold bs; rw [if_neg c4]) hK2)
    · exact okf c2 (Ok.some ⟨by rw [if_neg c', if_neg c2], hK⟩)
