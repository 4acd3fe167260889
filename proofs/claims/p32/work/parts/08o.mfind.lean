/-! ===== pure: the reference finds its lines ===== -/
/-- the lines' names in the end -/
noncomputable def mStar (τ : gSt) (lv : Int32) : Nat → Nat := gFold (sqF τ lv) 144 0 (fun i => i)
/-- what the reference knows of the lines -/
def MF (τ : gSt) (lv : Int32) (s : gSt) : Prop := Km τ s ∧ ML τ lv (mStar τ lv) (s.1 12) ∧ ∀ k, k < 288 → s.1 13 k = Int32.ofNat (cnt (fun i => gapP τ lv i ∧ mStar τ lv i = k) 288)
theorem finds_3 {τ s : gSt} {N : Nat} {lv : Int32} (hN : 288 < N) (hK : Km τ s) (hM : ML τ lv (mStar τ lv) (s.1 12)) (hZ : ∀ k, k < 288 → s.1 13 k = 0) : Ok (MF τ lv) (gLoop2 (fun (self91 : Int32 → gSt → Option gSt) (v2_91 : Int32) (s_91 : gSt) =>
            if 288 ≤ v2_91 then
              some s_91
            else
              if v2_91 < 0 ∨ 288 ≤ v2_91.toNatClampNeg then none else
              gJoin1 (fun (s_123 : gSt) =>
                  self91 (v2_91 + 1) s_123) (fun j123 =>
                if g_ga s_91 12 v2_91 = (-1) then
                  j123 s_91
                else
                  if v2_91 < 0 ∨ 288 ≤ v2_91.toNatClampNeg then none else
                  if g_ga s_91 12 v2_91 < 0 ∨ 288 ≤ (g_ga s_91 12 v2_91).toNatClampNeg then none else
                  if g_ga s_91 12 v2_91 < 0 ∨ 288 ≤ (g_ga s_91 12 v2_91).toNatClampNeg then none else
                  j123 (g_pa s_91 13 (g_ga s_91 12 v2_91) ((g_ga s_91 13 (g_ga s_91 12 v2_91)) + 1)))) N 0 s) := by
  refine gLoop2_ok (fun m v s' => (0 ≤ v.toInt ∧ v.toInt ≤ 288) ∧ (m : Int) = 288 - v.toInt ∧ Km τ s' ∧ ML τ lv (mStar τ lv) (s'.1 12) ∧ ∀ k, k < 288 → s'.1 13 k = Int32.ofNat (cnt (fun i => gapP τ lv i ∧ mStar τ lv i = k) v.toInt.toNat)) ?_ N 288 0 s hN ⟨by rw [tl0]; omega, by rw [tl0]; rfl, hK, hM, fun k hk => by rw [tl0]; exact hZ k hk⟩
  intro m v s' self ⟨hv, hm, hK', hM', hC⟩ ih
  by_cases c : 288 ≤ v
  · refine okt c (Ok.some ⟨hK', hM', fun k hk => ?_⟩)
    rw [tle, tl288] at c
    rw [hC k hk, show v.toInt.toNat = 288 by omega]
  · refine okf c ?_
    rw [tle, tl288] at c
    have gv : ¬ (v < 0 ∨ 288 ≤ v.toNatClampNeg) := by rw [tlt, tl0, tcl]; omega
    have e1 := inc1 (v := v) (n := 288) (by omega) (by omega)
    refine okf gv (okj ?_)
    have ev : g_ga s' 12 v = s'.1 12 v.toInt.toNat := rfl
    have en : (v.toInt + 1).toNat = v.toInt.toNat + 1 := by omega
    rw [ev]
    by_cases hg : gapP τ lv v.toInt.toNat
    · obtain ⟨h1, h2⟩ := (hM' v.toInt.toNat (by omega)).1 hg
      have ei : (s'.1 12 v.toInt.toNat).toInt = (mStar τ lv v.toInt.toNat : Nat) := by rw [h1, tnat (by omega)]
      have gm : ¬ (s'.1 12 v.toInt.toNat < 0 ∨ 288 ≤ (s'.1 12 v.toInt.toNat).toNatClampNeg) := by rw [tlt, tl0, tcl, ei]; omega
      refine okf (by rw [teq, ei, tlm1]; omega) (okf gv (okf gm (okf gm ?_)))
      refine ih (m - 1) (v + 1) _ (by omega) ⟨by rw [e1]; omega, by rw [e1]; omega, hK'.pa (by decide), by rw [pa_1, if_neg (by decide)]; exact hM', fun k hk => ?_⟩
      rw [e1, en, pa_1, if_pos rfl, upd_at, ei, ga_at ei]
      have cb := cnt_le (p := fun i => gapP τ lv i ∧ mStar τ lv i = k) v.toInt.toNat
      by_cases e : k = mStar τ lv v.toInt.toNat
      · rw [if_pos (by omega), cnt_pos ⟨hg, e.symm⟩, ← e, hC k hk, teq, tadd (by rw [tnat (by omega), tl1]; omega), tnat (by omega), tnat (by omega), tl1]
        rfl
      · rw [if_neg (by omega), cnt_neg (fun h => e h.2.symm), hC k hk]
    · have h1 := (hM' v.toInt.toNat (by omega)).2 hg
      refine okt h1 (ih (m - 1) (v + 1) _ (by omega) ⟨by rw [e1]; omega, by rw [e1]; omega, hK', hM', fun k hk => ?_⟩)
      rw [e1, en, cnt_neg (fun h => hg h.1)]
      exact hC k hk
theorem finds_m {τ : gSt} {N : Nat} {lv : Int32} (hT : InvT τ) (hN : 288 < N) (hl : 1 ≤ lv.toInt ∧ lv.toInt ≤ 255) : Ok (MF τ lv) (f_X10_findsLines N τ lv) := by
  unfold f_X10_findsLines
  have hT2 := hT
  obtain ⟨w1, w2, w3, w4, -⟩ := hT2
  refine gLoop2_ok (fun m v s => (0 ≤ v.toInt ∧ v.toInt ≤ 288) ∧ (m : Int) = 288 - v.toInt ∧ Km τ s ∧ (∀ k : Nat, (k : Int) < v.toInt → (gapP τ lv k → s.1 12 k = Int32.ofNat k) ∧ (¬ gapP τ lv k → s.1 12 k = -1)) ∧ (∀ k : Nat, (k : Int) < v.toInt → s.1 13 k = 0)) ?_ N 288 0 τ hN ⟨by rw [tl0]; omega, by rw [tl0]; rfl, Km.rf, fun k hk => by rw [tl0] at hk; omega, fun k hk => by rw [tl0] at hk; omega⟩
  intro m v s self ⟨hv, hm, hK, hA, hB⟩ ih
  by_cases c : 288 ≤ v
  · refine okt c ?_
    rw [tle, tl288] at c
    refine gLoop2_ok (fun m v s2 => (0 ≤ v.toInt ∧ v.toInt ≤ 144) ∧ (m : Int) = 144 - v.toInt ∧ ∃ M, MS τ lv (s.1 13) M s2 ∧ gFold (sqF τ lv) (144 - v.toInt.toNat) v.toInt.toNat M = mStar τ lv) ?_ N 144 0 s (by omega) ⟨by rw [tl0]; omega, by rw [tl0]; rfl, fun i => i, ⟨hK, rfl, fun k hk => ⟨fun h => ⟨(hA k (by omega)).1 h, hk⟩, (hA k (by omega)).2⟩⟩, by rw [tl0]; rfl⟩
    clear ih
    intro m v s2 self ⟨hv, hm, M, hS, hF⟩ ih
    by_cases c1 : 144 ≤ v
    · refine okt c1 ?_
      rw [tle, tl144] at c1
      rw [show 144 - v.toInt.toNat = 0 by omega] at hF
      have hF : M = mStar τ lv := hF
      subst hF
      exact finds_3 hN hS.1 hS.2.2 (fun k hk => by rw [hS.2.1]; exact hB k (by omega))
    · refine okf c1 (okj ?_)
      rw [tle, tl144] at c1
      have ed := div12 hv.1
      have em := mod12 hv.1
      have e1 := inc1 (v := v) (n := 144) (by omega) (by omega)
      have ed1 := inc1 (v := v / 12) (n := 12) (by rw [ed]; omega) (by omega)
      have em1 := inc1 (v := v - v / 12 * 12) (n := 12) (by rw [em]; omega) (by omega)
      rw [ed] at ed1
      rw [em] at em1
      have f0 : s2.2 0 = τ.2 0 := hS.1.2 0 (by decide)
      have f1 : s2.2 1 = τ.2 1 := hS.1.2 1 (by decide)
      rw [show 144 - v.toInt.toNat = 143 - v.toInt.toNat + 1 by omega, gFold_succ] at hF
      have go : ∀ s3 M3, MS τ lv (s.1 13) M3 s3 → sqF τ lv v.toInt.toNat M = M3 → Ok (MF τ lv) (self (v + 1) s3) := fun s3 M3 h1 h2 => ih (m - 1) (v + 1) s3 (by omega) ⟨by rw [e1]; omega, by rw [e1]; omega, M3, h1, by
        rw [h2] at hF
        rw [e1, ← hF]
        congr 1 <;> omega⟩
      by_cases c2 : s2.2 0 ≤ v - v / 12 * 12 + 1
      · refine okt c2 (go s2 M hS (cif_neg (fun h => ?_)))
        rw [f0, tle, em1] at c2
        have := h.1
        omega
      refine okf c2 ?_
      by_cases c3 : s2.2 1 ≤ v / 12 + 1
      · refine okt c3 (go s2 M hS (cif_neg (fun h => ?_)))
        rw [f1, tle, ed1] at c3
        have := h.2
        omega
      refine okf c3 ?_
      rw [f0, tle, em1] at c2
      rw [f1, tle, ed1] at c3
      exact (square_m hT hN hl hS (k := v.toInt.toNat) (by omega) ⟨by omega, by omega⟩).bind (fun t ht => go t _ ht rfl)
  · refine okf c ?_
    rw [tle, tl288] at c
    have gv : ¬ (v < 0 ∨ 288 ≤ v.toNatClampNeg) := by rw [tlt, tl0, tcl]; omega
    have e1 := inc1 (v := v) (n := 288) (by omega) (by omega)
    have go : ∀ z, ((gapP τ lv v.toInt.toNat → z = Int32.ofNat v.toInt.toNat) ∧ (¬ gapP τ lv v.toInt.toNat → z = -1)) → Ok (MF τ lv) (self (v + 1) (g_pa (g_pa s 12 v z) 13 v 0)) := by
      intro z hz
      refine ih (m - 1) (v + 1) _ (by omega) ⟨by rw [e1]; omega, by rw [e1]; omega, (hK.pa (by decide)).pa (by decide), fun k hk => ?_, fun k hk => ?_⟩
      · rw [e1] at hk
        rw [pa_1, if_neg (by decide), pa_1, if_pos rfl, upd_at]
        by_cases e : k = v.toInt.toNat
        · rw [if_pos e, e]; exact hz
        · rw [if_neg e]; exact hA k (by omega)
      · rw [e1] at hk
        rw [pa_1, if_pos rfl, upd_at]
        by_cases e : k = v.toInt.toNat
        · rw [if_pos e]
        · rw [if_neg e]; exact hB k (by omega)
    by_cases hg : gapP τ lv v.toInt.toNat
    · refine okb (isGap_m (r := some 1) hT hK.mp ⟨hv.1, by omega⟩ (fun _ => rfl) (fun h => absurd hg h)) (okj (okf one_ne (okf gv (okf gv (go _ ⟨fun _ => ofN_eq (by omega), fun h => absurd hg h⟩)))))
    · refine okb (isGap_m (r := some 0) hT hK.mp ⟨hv.1, by omega⟩ (fun h => absurd h hg) (fun _ => rfl)) (okj (okt rfl (okf gv (okf gv (go _ ⟨fun h => absurd h hg, fun _ => rfl⟩)))))
