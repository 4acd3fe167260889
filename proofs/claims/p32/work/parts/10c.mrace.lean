/-! ===== pure: the reference's states, splits and totals ===== -/
theorem state_m {τ : gSt} {N i : Nat} {x : Int32} (hI : Inv τ) (hN : 30 < N) (hx : x.toInt = i) (hi : (i : Int) < (τ.2 3).toInt) : Ok (fun q => q.1 = stF (cor τ) i ∧ MG τ i (thr (cor τ) i (pR (cor τ) i)) q.2) (f_X10_state N τ x) := by
  have hA := RF_of hI hi
  have i24 : i < 24 := by have := hI.2.2.2.1.2.1; omega
  have gx : ¬ (x < 0 ∨ 24 ≤ x.toNatClampNeg) := gd (by omega) (by omega)
  unfold f_X10_state
  refine (goes_m hI hN hx hi).bind (fun q hq => ?_)
  obtain ⟨b, s⟩ := q
  obtain ⟨hb, hM⟩ := hq
  dsimp only at hb hM ⊢
  have hK := hM.1
  by_cases c : lL (cor τ) i ≤ nX (cor τ) i
  · rw [if_pos c] at hb
    refine okf (by rw [hb]; exact one_ne) (Ok.some ⟨?_, hM⟩)
    unfold stF
    rw [if_pos c]
  · rw [if_neg c] at hb
    refine okt hb (okf gx (okf gx ?_))
    obtain ⟨k1, k2, k3, k4⟩ := run_at hK hx hA
    obtain ⟨r1, r2, r3, r4, r5, r6, r7, r8, r9, r10, r11, r12, r13⟩ := id hA
    have e5 : (6 * g_ga s 6 x + g_ga s 5 (g_ga s 6 x)).toInt = 6 * kL (cor τ) i + lL (cor τ) i := by rw [tadd (by rw [mul6 k1]; omega), mul6 k1, k2, k3]
    have e6 : (6 * g_ga s 6 x + g_ga s 5 (g_ga s 6 x) - 1).toInt = 6 * kL (cor τ) i + (lL (cor τ) i - 1 : Nat) := by rw [tsub (by rw [e5, tl1]; omega), e5, tl1]; omega
    have eF : g_ga s 4 (6 * g_ga s 6 x + g_ga s 5 (g_ga s 6 x) - 1) = cR (cor τ) i (lL (cor τ) i - 1) := by
      rw [ga_at (n := 6 * kL (cor τ) i + (lL (cor τ) i - 1)) (by rw [e6]; omega), hK.1 4 (by decide)]
      unfold cR
      rw [cor_at (by decide)]
    refine okf (gd k1.1 k1.2) (okf (gd (by rw [e6]; omega) (by rw [e6]; omega)) ?_)
    rw [eF]
    have e20 : (20 * x).toInt = 20 * i := by rw [tmul (by rw [tl20]; omega), tl20, hx]
    have e21 : ((20 * x) + (g_ga s 11 x)).toInt = 20 * i + pR (cor τ) i := by rw [tadd (by rw [e20, k4]; omega), e20, k4]
    refine gLoop2_ok (fun m (v3 v4 : Int32) => ∃ k : Nat, k ≤ pR (cor τ) i ∧ (m : Int) = 22 - k ∧ v4.toInt = 20 * i + k ∧ v3 = hpF (cor τ) i k) ?_ N 22 0 (20 * x) (by omega) ⟨0, by omega, by omega, by rw [e20]; omega, rfl⟩
    intro m v3 v4 self ⟨k, hk, hm, h4, h3⟩ ih
    refine okf gx ?_
    by_cases c1 : (20 * x) + (g_ga s 11 x) ≤ v4
    · refine okt c1 (Ok.some ⟨?_, hM⟩)
      rw [tle, e21, h4] at c1
      unfold stF
      rw [if_neg c, h3, show k = pR (cor τ) i by omega]
    · refine okf c1 ?_
      rw [tle, e21, h4] at c1
      have e4 := inc1 (v := v4) (n := 480) (by omega) (by omega)
      refine okf (gd (by omega) (by omega)) (okz ?_)
      rw [(pun_at (s := s) hK h4).1]
      by_cases c2 : cor τ 9 (20 * i + k) = cR (cor τ) i (lL (cor τ) i - 1)
      · exact okt c2 (ih (m - 1) 2 (v4 + 1) (by omega) ⟨k + 1, by omega, by omega, by rw [e4]; omega, (if_pos c2).symm⟩)
      · exact okf c2 (ih (m - 1) v3 (v4 + 1) (by omega) ⟨k + 1, by omega, by omega, by rw [e4]; omega, h3.trans (if_neg c2).symm⟩)
theorem void_m {τ s : gSt} {N i g : Nat} {x v : Int32} (hK : Km τ s) (hA : RF (cor τ) i) (hx : x.toInt = i) (i24 : i < 24) (hv : v.toInt = g) (hg : g + 1 < lL (cor τ) i) : f_X10_isVoid N s x v = some (vo (cor τ) i g) := by
  have gx : ¬ (x < 0 ∨ 24 ≤ x.toNatClampNeg) := gd (by omega) (by omega)
  obtain ⟨k1, k2, k3, k4⟩ := run_at hK hx hA
  have r5 := hA.2.2.2.2.1
  have r2 := hA.2.1
  obtain ⟨ec, eg⟩ := crs_at (s := s) hK hA k1 k2 hv (by omega)
  have e1 := inc1 (v := 6 * g_ga s 6 x + v) (n := 30) (by omega) (by omega)
  have eg1 : g_ga s 4 (6 * g_ga s 6 x + v + 1) = cR (cor τ) i (g + 1) := by
    rw [ga_at (n := 6 * kL (cor τ) i + (g + 1)) (by rw [e1, ec]; omega), hK.1 4 (by decide)]
    unfold cR
    rw [cor_at (by decide)]
  obtain ⟨f1, f2⟩ := fail_at (s := s) hK hA (j := g) (by omega) rfl
  obtain ⟨f3, f4⟩ := fail_at (s := s) hK hA (j := g + 1) (by omega) rfl
  unfold f_X10_isVoid vo
  rw [if_neg gx, if_neg (gd (by rw [ec]; omega) (by rw [ec]; omega)), eg, if_neg f1, f2]
  by_cases c : fR (cor τ) i g = 0
  · rw [if_pos c, if_pos c, if_neg (gd (by rw [e1, ec]; omega) (by rw [e1, ec]; omega)), eg1, if_neg f3, f4]
    by_cases c2 : fR (cor τ) i (g + 1) = 0
    · rw [if_pos c2, if_pos c2]
    · rw [if_neg c2, if_neg c2]
  · rw [if_neg c, if_neg c]
theorem split_m {τ s : gSt} {N i g : Nat} {x v : Int32} (hM : MG τ i (thr (cor τ) i (pR (cor τ) i)) s) (hA : RF (cor τ) i) (hx : x.toInt = i) (i24 : i < 24) (hv : v.toInt = g) (hg : g + 1 < lL (cor τ) i) : f_X10_splitOf N s x v = some (spl (cor τ) i g) := by
  have r5 := hA.2.2.2.2.1
  have e1 := inc1 (v := v) (n := 6) (by omega) (by omega)
  have a1 : g_ga s 16 v = aT (cor τ) i g := by rw [ga_at hv]; exact hM.2.1 g (by omega)
  have a2 : g_ga s 16 (v + 1) = aT (cor τ) i (g + 1) := by rw [ga_at (n := g + 1) (by rw [e1]; omega)]; exact hM.2.1 (g + 1) (by omega)
  unfold f_X10_splitOf spl
  rw [void_m hM.1 hA hx i24 hv hg, Option.bind_some]
  by_cases c : vo (cor τ) i g = 0
  · rw [if_pos c, if_pos c, if_neg (gd (by omega) (by omega)), a1, a2]
    by_cases c1 : aT (cor τ) i g = -1
    · rw [if_pos c1, if_pos c1]
    · rw [if_neg c1, if_neg c1, if_neg (gd (by omega) (by omega))]
      by_cases c2 : aT (cor τ) i (g + 1) = -1
      · rw [if_pos c2, if_pos c2]
      · rw [if_neg c2, if_neg c2, if_neg (gd (by omega) (by omega)), if_neg (gd (by omega) (by omega))]
  · rw [if_neg c, if_neg c]
theorem total_m {τ : gSt} {N i : Nat} {x : Int32} (hI : Inv τ) (hN : 30 < N) (hx : x.toInt = i) (hi : (i : Int) < (τ.2 3).toInt) : Ok (fun q => q.1 = tot (cor τ) i ∧ MG τ i (thr (cor τ) i (pR (cor τ) i)) q.2) (f_X10_totalOf N τ x) := by
  have hA := RF_of hI hi
  have i24 : i < 24 := by have := hI.2.2.2.1.2.1; omega
  have gx : ¬ (x < 0 ∨ 24 ≤ x.toNatClampNeg) := gd (by omega) (by omega)
  have r4 := hA.2.2.2.1
  have r5 := hA.2.2.2.2.1
  unfold f_X10_totalOf
  refine (state_m hI hN hx hi).bind (fun q hq => ?_)
  obtain ⟨b, s⟩ := q
  obtain ⟨hb, hM⟩ := hq
  dsimp only at hb hM ⊢
  have hK := hM.1
  obtain ⟨k1, k2, k3, k4⟩ := run_at hK hx hA
  have gk := gd (x := g_ga s 6 x) (n := 5) k1.1 k1.2
  have e5 : (g_ga s 5 (g_ga s 6 x) - 1).toInt = (lL (cor τ) i - 1 : Nat) := by rw [tsub (by rw [k3, tl1]; omega), k3, tl1]; omega
  refine okz ?_
  by_cases c : b = 1
  · refine okt c ?_
    have hr : stF (cor τ) i = 1 := hb.symm.trans c
    refine gLoop2_ok (fun m (v2 v3 : Int32) => ∃ g : Nat, g ≤ lL (cor τ) i - 1 ∧ (m : Int) = 6 - g ∧ v3.toInt = g ∧ v2 = tsum (cor τ) i g) ?_ N 6 0 0 (by omega) ⟨0, by omega, by omega, rfl, rfl⟩
    intro m v2 v3 self ⟨g, hg, hm, h3, h2⟩ ih
    refine okf gx (okf gk ?_)
    by_cases c1 : g_ga s 5 (g_ga s 6 x) - 1 ≤ v3
    · refine okt c1 (Ok.some ⟨?_, hM⟩)
      rw [tle, e5] at c1
      unfold tot
      rw [if_pos hr, h2, show g = lL (cor τ) i - 1 by omega]
    · refine okf c1 ?_
      rw [tle, e5] at c1
      have hs := tsum_in hA g (by omega)
      have hn : v2 ≠ -1 := fun e => by rw [← h2, e, tlm1] at hs; omega
      have e1 := inc1 (v := v3) (n := 6) (by omega) (by omega)
      refine okf hn (okb (void_m hK hA hx i24 h3 (by omega)) (okz ?_))
      have hnext : tsum (cor τ) i (g + 1) = tsum (cor τ) i g + (if spl (cor τ) i g = -1 then 0 else spl (cor τ) i g) := rfl
      by_cases c2 : vo (cor τ) i g = 0
      · have hs := spl_is hA hr c2 (by omega)
        have hn2 : spl (cor τ) i g ≠ -1 := fun e => by rw [e, tlm1] at hs; omega
        refine okt c2 (okb (split_m hM hA hx i24 h3 (by omega)) (ih (m - 1) _ (v3 + 1) (by omega) ⟨g + 1, by omega, by omega, by rw [e1]; omega, ?_⟩))
        rw [hnext, if_neg hn2, h2]
      · have hn2 : spl (cor τ) i g = -1 := by unfold spl; rw [if_neg c2]
        refine okf c2 (ih (m - 1) _ (v3 + 1) (by omega) ⟨g + 1, by omega, by omega, by rw [e1]; omega, ?_⟩)
        rw [hnext, if_pos hn2, h2]
  · refine okf c ?_
    have hr : stF (cor τ) i ≠ 1 := fun e => c (hb.trans e)
    refine gLoop2_ok (fun m (v2 v3 : Int32) => v2 = -1 ∧ v3.toInt = 0) ?_ N 0 (-1) 0 (by omega) ⟨rfl, rfl⟩
    intro m v2 v3 self ⟨h2, h3⟩ ih
    have c1 : ¬ g_ga s 5 (g_ga s 6 x) - 1 ≤ v3 := by rw [tle, e5, h3]; omega
    refine okf gx (okf gk (okf c1 (okt h2 (Ok.some ⟨?_, hM⟩))))
    unfold tot
    rw [if_neg hr, h2]
theorem tot_or {A : Nat → Nat → Int32} {i : Nat} (hA : RF A i) : (stF A i = 1 ∧ tot A i ≠ -1 ∧ 0 ≤ (tot A i).toInt ∧ (tot A i).toInt ≤ 60000) ∨ (stF A i ≠ 1 ∧ tot A i = -1) := by
  unfold tot
  by_cases c : stF A i = 1
  · rw [if_pos c]
    have r5 := hA.2.2.2.2.1
    have := tsum_in hA (lL A i - 1) (by omega)
    exact Or.inl ⟨c, fun e => by rw [e, tlm1] at this; omega, by omega, by omega⟩
  · rw [if_neg c]
    exact Or.inr ⟨c, rfl⟩
/-- the rank, as far as the first k runners tell -/
def rkF (A : Nat → Nat → Int32) (i : Nat) : Nat → Int32
  | 0 => 1
  | k + 1 => rkF A i k + (if A 6 k = A 6 i then if tot A k = -1 then 0 else if tot A i ≤ tot A k then 0 else 1 else 0)
theorem rank_m {τ : gSt} {N i n : Nat} {x : Int32} (hI : Inv τ) (hN : 30 < N) (hx : x.toInt = i) (hn : (τ.2 3).toInt = n) (hi : i < n) : Ok (fun q => q.1 = (if tot (cor τ) i = -1 then -1 else rkF (cor τ) i n) ∧ Km (g_sf τ 6 0) q.2) (f_X10_rank N τ x) := by
  have n24 : n ≤ 24 := by have := hI.2.2.2.1.2.1; omega
  have hI0 : Inv (g_sf τ 6 0) := hI
  have i24 : i < 24 := by omega
  have hc : cor (g_sf τ 6 0) = cor τ := rfl
  unfold f_X10_rank
  rw [run_yes hI.2.2.2.1 (show isR τ x from ⟨by omega, by omega⟩), asked1]
  refine okf one_ne ((total_m hI0 hN hx (by show (i : Int) < (τ.2 3).toInt; omega)).bind (fun q hq => ?_))
  obtain ⟨b, s⟩ := q
  obtain ⟨hb, hM⟩ := hq
  dsimp only at hb hM ⊢
  rw [hc] at hb
  refine okz ?_
  have hK := hM.1
  by_cases c : b = -1
  · refine okt c ?_
    refine gLoop3_ok (fun m (v3 v4 : Int32) s2 => v3 = -1 ∧ s2 = s) ?_ N 0 (-1) 0 s (by omega) ⟨rfl, rfl⟩
    intro m v3 v4 s2 self ⟨h3, hs⟩ ih
    have fin : Ok (fun q => q.1 = (if tot (cor τ) i = -1 then -1 else rkF (cor τ) i n) ∧ Km (g_sf τ 6 0) q.2) (some (v3, s2)) := Ok.some ⟨by rw [if_pos (hb.symm.trans c)]; exact h3, by rw [hs]; exact hK⟩
    by_cases c1 : s2.2 3 ≤ v4
    · exact okt c1 fin
    · exact okf c1 (okt c fin)
  · refine okf c ?_
    refine gLoop3_ok (fun m (v3 v4 : Int32) s2 => ∃ k : Nat, k ≤ n ∧ (m : Int) = 24 - k ∧ v4.toInt = k ∧ v3 = rkF (cor τ) i k ∧ (0 ≤ v3.toInt ∧ v3.toInt ≤ 1 + k) ∧ Km (g_sf τ 6 0) s2) ?_ N 24 1 0 s (by omega) ⟨0, by omega, by omega, rfl, rfl, by rw [tl1]; omega, hK⟩
    intro m v3 v4 s2 self ⟨k, hk, hm, h4, h3, h3b, hK2⟩ ih
    have e3 : (s2.2 3).toInt = n := by rw [hK2.2 3 (by decide)]; exact hn
    by_cases c1 : s2.2 3 ≤ v4
    · refine okt c1 (Ok.some ⟨?_, hK2⟩)
      rw [tle, e3, h4] at c1
      rw [if_neg (fun e => c (hb.trans e))]
      show v3 = _
      rw [h3, show k = n by omega]
    · refine okf c1 (okf c ?_)
      rw [tle, e3, h4] at c1
      have e1 := inc1 (v := v4) (n := 24) (by omega) (by omega)
      refine okf (gd (by omega) (by omega)) (okf (gd (by omega) (by omega)) (ok2 ?_))
      have a6 : g_ga s2 6 v4 = cor τ 6 k := by rw [ga_at h4, hK2.1 6 (by decide), cor_at (by decide)]; rfl
      have b6 : g_ga s2 6 x = cor τ 6 i := by rw [ga_at hx, hK2.1 6 (by decide), cor_at (by decide)]; rfl
      rw [a6, b6]
      have hnext : rkF (cor τ) i (k + 1) = rkF (cor τ) i k + (if cor τ 6 k = cor τ 6 i then if tot (cor τ) k = -1 then 0 else if tot (cor τ) i ≤ tot (cor τ) k then 0 else 1 else 0) := rfl
      have go : ∀ (w : Int32) s3, Km (g_sf τ 6 0) s3 → (w = 0 ∨ w = 1) → w = (if cor τ 6 k = cor τ 6 i then if tot (cor τ) k = -1 then 0 else if tot (cor τ) i ≤ tot (cor τ) k then 0 else 1 else 0) → Ok (fun q => q.1 = (if tot (cor τ) i = -1 then -1 else rkF (cor τ) i n) ∧ Km (g_sf τ 6 0) q.2) (self (v3 + w) (v4 + 1) s3) := fun w s3 hK3 hw hwe => by
        have hw2 : 0 ≤ w.toInt ∧ w.toInt ≤ 1 := by
          rcases hw with rfl | rfl
          · rw [tl0]; omega
          · rw [tl1]; omega
        have ea : (v3 + w).toInt = v3.toInt + w.toInt := tadd (by omega)
        exact ih (m - 1) (v3 + w) (v4 + 1) s3 (by omega) ⟨k + 1, by omega, by omega, by rw [e1]; omega, by rw [hnext, ← hwe, h3], by rw [ea]; omega, hK3⟩
      by_cases c2 : cor τ 6 k = cor τ 6 i
      · have hI2 : Inv s2 := hI0.keep hK2
        refine okt c2 ((total_m hI2 hN h4 (by rw [e3]; omega)).bind (fun q hq => ?_))
        obtain ⟨w, s3⟩ := q
        obtain ⟨hw, hM3⟩ := hq
        dsimp only at hw hM3 ⊢
        rw [cor_km hK2, hc] at hw
        have hK3 : Km (g_sf τ 6 0) s3 := hK2.trans hM3.1
        refine okz (ok0 ?_)
        by_cases c3 : w = -1
        · exact okt c3 (go 0 s3 hK3 (Or.inl rfl) (by rw [if_pos c2, if_pos (hw.symm.trans c3)]))
        · refine okf c3 ?_
          by_cases c4 : b ≤ w
          · exact okt c4 (go 0 s3 hK3 (Or.inl rfl) (by rw [if_pos c2, if_neg (fun e => c3 (hw.trans e)), if_pos (by rw [← hb, ← hw]; exact c4)]))
          · exact okf c4 (go 1 s3 hK3 (Or.inr rfl) (by rw [if_pos c2, if_neg (fun e => c3 (hw.trans e)), if_neg (by rw [← hb, ← hw]; exact c4)]))
      · exact okf c2 (okz (ok0 (okt rfl (go 0 s2 hK2 (Or.inl rfl) (by rw [if_neg c2])))))
