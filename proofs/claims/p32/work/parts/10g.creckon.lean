/-! ===== pure: the class reckons ===== -/
theorem spl_ne {A : Nat → Nat → Int32} {i g : Nat} (hA : RF A i) (c1 : aT A i g ≠ -1) (c2 : aT A i (g + 1) ≠ -1) : aT A i (g + 1) - aT A i g ≠ -1 := by
  have a := (aT_or hA g).resolve_left c1
  have b := (aT_or hA (g + 1)).resolve_left c2
  have m : (aT A i g).toInt ≤ (aT A i (g + 1)).toInt := (TF_thr hA (pR A i) (Nat.le_refl _)).2.2.2.2.1 g (g + 1) (by omega) c1 c2
  intro h
  rw [teq, tsub (by omega), tlm1] at h
  omega
theorem void_c {s τ : gSt} {i g : Nat} {v : Int32} (hR : Rel s τ) (hA : RF (cor τ) i) (hv : v.toInt = g) (hg : g + 1 < lL (cor τ) i) : f_X5_isVoid s (cor τ 6 i) v = vo (cor τ) i g := by
  have r5 := hA.2.2.2.2.1
  have e1 := inc1 (v := v) (n := 6) (by omega) (by omega)
  unfold f_X5_isVoid vo
  rw [cat_c hR hA hv (by omega), cat_c hR hA (v := v + 1) (j := g + 1) (by omega) (by omega)]
  by_cases c : fR (cor τ) i g = 0
  · rw [if_pos c, if_pos ((hf_c hR hA (by omega)).mpr c)]
    by_cases c2 : fR (cor τ) i (g + 1) = 0
    · rw [if_pos c2, if_pos ((hf_c hR hA (by omega)).mpr c2)]
    · rw [if_neg c2, if_neg (fun e => c2 ((hf_c hR hA (by omega)).mp e))]
  · rw [if_neg c, if_neg (fun e => c ((hf_c hR hA (by omega)).mp e))]
theorem legs_c {s τ : gSt} {i : Nat} (hR : Rel s τ) (hA : RF (cor τ) i) : (f_X2_legs s (cor τ 6 i)).toInt = (lL (cor τ) i - 1 : Nat) := by
  have r4 := hA.2.2.2.1
  have r5 := hA.2.2.2.2.1
  have hl := len_c hR hA
  unfold f_X2_legs
  rw [tmax, tsub (by rw [hl, tl1]; omega), hl, tl1, tl0]
  omega
theorem splits_c {s τ : gSt} {N i : Nat} {x : Int32} (hR : Rel s τ) (hN : 30 < N) (hA : RF (cor τ) i) (hx : x.toInt = i) (i24 : i < 24) (h23 : ∀ j, j < 6 → s.1 23 (6 * i + j) = aT (cor τ) i j) (h26 : s.1 26 i = stF (cor τ) i) : Ok (fun (u : gSt) => Kz s u ∧ (∀ g, g + 1 < lL (cor τ) i → u.1 24 (6 * i + g) = spl (cor τ) i g) ∧ (∀ j, j < 6 * i ∨ 6 * i + 6 ≤ j → u.1 24 j = s.1 24 j) ∧ u.1 23 = s.1 23 ∧ u.1 25 = s.1 25 ∧ u.1 26 = s.1 26 ∧ u.1 27 = upd (s.1 27) i (tot (cor τ) i)) (f_X5_reckonSplits N s x) := by
  have r4 := hA.2.2.2.1
  have r5 := hA.2.2.2.2.1
  have hkl := klass_c hR hx i24
  have e6 : (x * 6).toInt = 6 * i := by rw [tmul (by rw [tl6]; omega), tl6, hx]; omega
  unfold f_X5_reckonSplits
  rw [hkl]
  refine gLoop3_ok (fun m (v3 v4 : Int32) u => ∃ g : Nat, g ≤ lL (cor τ) i - 1 ∧ (m : Int) = 6 - g ∧ v4.toInt = g ∧ v3 = tsum (cor τ) i g ∧ Kz s u ∧ (∀ q, q < g → u.1 24 (6 * i + q) = spl (cor τ) i q) ∧ (∀ j, j < 6 * i ∨ 6 * i + 6 ≤ j → u.1 24 j = s.1 24 j) ∧ u.1 23 = s.1 23 ∧ u.1 25 = s.1 25 ∧ u.1 26 = s.1 26 ∧ u.1 27 = s.1 27) ?_ N 6 0 0 s (by omega) ⟨0, by omega, by omega, rfl, rfl, Kz.rf, fun q hq => by omega, fun _ _ => rfl, rfl, rfl, rfl, rfl⟩
  intro m v3 v4 u self ⟨g, hg, hm, h4, h3, hz, u24, u24o, u23, u25, u26, u27⟩ ih
  have hRu := hR.kz hz
  have hl := legs_c hRu hA
  by_cases c : f_X2_legs u (cor τ 6 i) ≤ v4
  · refine okt c (okz ?_)
    rw [tle, hl, h4] at c
    have hgL : g = lL (cor τ) i - 1 := by omega
    have fin : ∀ w, w = tot (cor τ) i → Ok (fun (u : gSt) => Kz s u ∧ (∀ g, g + 1 < lL (cor τ) i → u.1 24 (6 * i + g) = spl (cor τ) i g) ∧ (∀ j, j < 6 * i ∨ 6 * i + 6 ≤ j → u.1 24 j = s.1 24 j) ∧ u.1 23 = s.1 23 ∧ u.1 25 = s.1 25 ∧ u.1 26 = s.1 26 ∧ u.1 27 = upd (s.1 27) i (tot (cor τ) i)) (some (gput u 27 x w)) := by
      intro w hw
      refine Ok.some ?_
      rw [gput_in (by omega) (by rw [len5.2.2.2.2]; omega), hx, hw]
      refine ⟨hz.sa (by decide), fun q hq => u24 q (by omega), u24o, u23, u25, u26, ?_⟩
      rw [sa_1, if_pos rfl, u27]
      rfl
    have g26 : gget u 26 x = stF (cor τ) i := by
      rw [gget_in (by omega) (by rw [len5.2.2.2.1]; omega), hx, u26]
      exact h26
    rw [g26]
    by_cases c2 : stF (cor τ) i = 1
    · refine okt c2 (fin v3 ?_)
      unfold tot
      rw [if_pos c2, h3, hgL]
    · refine okf c2 (fin (-1) ?_)
      unfold tot
      rw [if_neg c2]
  · refine okf c ?_
    rw [tle, hl, h4] at c
    have e4 := inc1 (v := v4) (n := 6) (by omega) (by omega)
    have ep : (x * 6 + v4).toInt = 6 * i + g := by rw [tadd (by rw [e6]; omega), e6, h4]
    have ep1 : (x * 6 + v4 + 1).toInt = 6 * i + (g + 1 : Nat) := by rw [inc1 (n := 1000) (by omega) (by omega), ep]; omega
    have a1 : gget u 23 (x * 6 + v4) = aT (cor τ) i g := by
      rw [gget_in (by omega) (by rw [len5.1]; omega), ep, u23]
      exact h23 g (by omega)
    have a2 : gget u 23 (x * 6 + v4 + 1) = aT (cor τ) i (g + 1) := by
      rw [gget_in (by omega) (by rw [len5.1]; omega), ep1, u23]
      exact h23 (g + 1) (by omega)
    rw [a1, a2, void_c hRu hA h4 (by omega)]
    have hnext : tsum (cor τ) i (g + 1) = tsum (cor τ) i g + (if spl (cor τ) i g = -1 then 0 else spl (cor τ) i g) := rfl
    have go : ∀ w1 w2, w1 = spl (cor τ) i g → w2 = (if spl (cor τ) i g = -1 then 0 else spl (cor τ) i g) → Ok (fun (u : gSt) => Kz s u ∧ (∀ g, g + 1 < lL (cor τ) i → u.1 24 (6 * i + g) = spl (cor τ) i g) ∧ (∀ j, j < 6 * i ∨ 6 * i + 6 ≤ j → u.1 24 j = s.1 24 j) ∧ u.1 23 = s.1 23 ∧ u.1 25 = s.1 25 ∧ u.1 26 = s.1 26 ∧ u.1 27 = upd (s.1 27) i (tot (cor τ) i)) (self (v3 + w2) (v4 + 1) (gput u 24 (x * 6 + v4) w1)) := by
      intro w1 w2 hw1 hw2
      rw [gput_in (by omega) (by rw [len5.2.1]; omega), ep]
      refine ih (m - 1) (v3 + w2) (v4 + 1) _ (by omega) ⟨g + 1, by omega, by omega, by omega, by rw [hnext, h3, hw2], hz.sa (by decide), fun q hq => ?_, fun j hj => ?_, u23, u25, u26, u27⟩
      · rw [sa_1, if_pos rfl, upd_at]
        by_cases e : q = g
        · rw [e, if_pos (by omega), hw1]
        · rw [if_neg (by omega)]
          exact u24 q (by omega)
      · rw [sa_1, if_pos rfl, upd_at, if_neg (by omega)]
        exact u24o j hj
    have hsd : spl (cor τ) i g = (if vo (cor τ) i g = 0 then if aT (cor τ) i g = -1 then -1 else if aT (cor τ) i (g + 1) = -1 then -1 else aT (cor τ) i (g + 1) - aT (cor τ) i g else -1) := rfl
    have no : spl (cor τ) i g = -1 → Ok (fun (u : gSt) => Kz s u ∧ (∀ g, g + 1 < lL (cor τ) i → u.1 24 (6 * i + g) = spl (cor τ) i g) ∧ (∀ j, j < 6 * i ∨ 6 * i + 6 ≤ j → u.1 24 j = s.1 24 j) ∧ u.1 23 = s.1 23 ∧ u.1 25 = s.1 25 ∧ u.1 26 = s.1 26 ∧ u.1 27 = upd (s.1 27) i (tot (cor τ) i)) (self (v3 + 0) (v4 + 1) (gput u 24 (x * 6 + v4) (-1))) := fun h => go (-1) 0 h.symm (by rw [if_pos h])
    refine okz (ok0 ?_)
    by_cases c1 : aT (cor τ) i g = -1
    · refine okt c1 (okz (okt rfl (okz (okt rfl (no ?_)))))
      rw [hsd, if_pos c1, ite_self]
    · refine okf c1 ?_
      by_cases c2 : aT (cor τ) i (g + 1) = -1
      · refine okt c2 (okz (okt rfl (okz (okt rfl (no ?_)))))
        rw [hsd, if_pos c2, if_neg c1, ite_self]
      · refine okf c2 ?_
        by_cases c3 : vo (cor τ) i g = 0
        · rw [if_pos c3, if_neg c1, if_neg c2] at hsd
          refine okt c3 (okz (okf one_ne (okz (okf one_ne (go _ _ hsd.symm ?_)))))
          rw [if_neg (by rw [hsd]; exact spl_ne hA c1 c2), hsd]
        · refine okf c3 (okz (okt rfl (okz (okt rfl (no ?_)))))
          rw [hsd, if_neg c3]
/-- what the class has reckoned of the first k runners -/
def RC (σ : gSt) (A : Nat → Nat → Int32) (k : Nat) (s : gSt) : Prop := Kz σ s ∧ (∀ i, i < k → (s.1 25 i).toInt = cT A i ∧ s.1 26 i = stF A i ∧ s.1 27 i = tot A i ∧ ∀ g, g + 1 < lL A i → s.1 24 (6 * i + g) = spl A i g)
theorem reckon_c {σ τ : gSt} {N n : Nat} (hR : Rel σ τ) (hN : 30 < N) (hn : (τ.2 3).toInt = n) : Ok (RC σ (cor τ) n) (f_X5_reckon N σ) := by
  have n24 : n ≤ 24 := by have := hR.2.2.2.2.1.2.1; omega
  have hAll : ∀ i, i < n → RF (cor τ) i := fun i hi => RF_of hR.2 (by omega)
  unfold f_X5_reckon
  rw [gfill_eq, gfill_eq]
  refine gLoop2_ok (fun m (v : Int32) s => ∃ k : Nat, k ≤ n ∧ (m : Int) = 24 - k ∧ v.toInt = k ∧ RC σ (cor τ) k s ∧ (∀ j, 6 * k ≤ j → j < 144 → s.1 23 j = -1) ∧ (∀ i, k ≤ i → i < 24 → s.1 25 i = 0)) ?_ N 24 0 _ (by omega) ⟨0, by omega, by omega, rfl, ⟨(Kz.rf.sa (by decide)).sa (by decide), fun i hi => by omega⟩, fun j _ hj => ?_, fun i _ hi => ?_⟩
  · intro m v s self ⟨k, hk, hm, hv, hC, h23, h25⟩ ih
    have hRs := hR.kz hC.1
    have hc : (s.2 10).toInt = n := by rw [hC.1.2 10, hR.1.2.2.2.2.2.1]; exact hn
    show Ok _ (if f_X3_count s ≤ v then _ else _)
    unfold f_X3_count
    by_cases c : s.2 10 ≤ v
    · refine okt c (Ok.some ?_)
      rw [tle, hc, hv] at c
      rw [show n = k by omega]
      exact hC
    · refine okf c ?_
      rw [tle, hc, hv] at c
      have e1 := inc1 (v := v) (n := 24) (by omega) (by omega)
      have hA := hAll k (by omega)
      refine (follow_c hRs hN hA hv (by omega) (fun j hj => h23 _ (by omega) (by omega)) (h25 k (by omega) (by omega))).bind (fun u hu => ?_)
      obtain ⟨w, rfl, f1, f2, f3, f4, f5, f6, f7, f8⟩ := hu
      have hz : Kz s (g_sa w 26 (upd (w.1 26) k (stF (cor τ) k))) := f1.sa (by decide)
      refine (splits_c (hRs.kz hz) hN hA hv (by omega) (fun j hj => f2 j hj) (by rw [sa_1, if_pos rfl, upd_at, if_pos rfl])).bind (fun u hu => ?_)
      obtain ⟨u1, u2, u3, u4, u5, u6, u7⟩ := hu
      refine ih (m - 1) (v + 1) u (by omega) ⟨k + 1, by omega, by omega, by omega, ⟨hC.1.trans (hz.trans u1), fun i hi => ?_⟩, fun j h1 h2 => ?_, fun i h1 h2 => ?_⟩
      · rw [u5, u6, u7, sa_1, if_neg (by decide), sa_1, if_pos rfl, sa_1, if_neg (by decide), upd_at, upd_at]
        by_cases e : i = k
        · subst e
          rw [if_pos rfl, if_pos rfl]
          exact ⟨f4, rfl, rfl, u2⟩
        · rw [if_neg e, if_neg e, f5 i e, f7, f8]
          obtain ⟨d1, d2, d3, d4⟩ := hC.2 i (by omega)
          refine ⟨d1, d2, d3, fun g hg => ?_⟩
          have hL6 := (hAll i (by omega)).2.2.2.2.1
          rw [u3 _ (by omega)]
          show w.1 24 _ = _
          rw [f6]
          exact d4 g hg
      · rw [u4]
        show w.1 23 j = -1
        rw [f3 j (by omega)]
        exact h23 j (by omega) h2
      · rw [u5]
        show w.1 25 i = 0
        rw [f5 i (by omega)]
        exact h25 i (by omega) h2
  · rw [sa_1, if_neg (by decide), sa_1, if_pos rfl]
    show (if j < gLen 23 then (-1 : Int32) else _) = -1
    rw [if_pos (by rw [len5.1]; exact hj)]
  · rw [sa_1, if_pos rfl]
    show (if i < gLen 25 then (0 : Int32) else _) = 0
    rw [if_pos (by rw [len5.2.2.1]; exact hi)]
