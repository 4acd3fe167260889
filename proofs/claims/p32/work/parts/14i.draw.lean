/-! ===== pure: turned maps: draw (the class's walk beside each of the two) ===== -/
theorem draw_x {σ τ : gSt} {N n : Nat} {x step : Int32} (hI : Inv τ) (hN : 24 < N) (w6 : σ.1 16 = τ.1 6) (w7 : σ.1 17 = τ.1 7) (w8 : ∀ i, i < n → σ.1 19 i = τ.1 8 i) (hn' : (σ.2 10).toInt = n) (hn : (τ.2 3).toInt = n) (hn2 : n ≤ 24) (h1 : 0 ≤ x.toInt ∧ x.toInt ≤ 7874) (h2 : 1 ≤ step.toInt ∧ step.toInt ≤ 10) (c : 0 < n) (hd : τ.2 4 = 0) : Ok (fun (q1 : Int32 × gSt) => ∃ t', f_X10_draw N τ x step = some (q1.1, t') ∧ (∀ i, i < n → q1.2.1 19 i = t'.1 8 i) ∧ (∀ r, r ≤ 11 → r ≠ 8 → t'.1 r = τ.1 r) ∧ (∀ k, k ≤ 3 → t'.2 k = τ.2 k) ∧ t'.2 4 = 1 ∧ t'.2 6 = 0 ∧ ∀ i, n ≤ i → t'.1 8 i = τ.1 8 i) (f_X3_drawStarts N σ x step) := by
  have iE := hI.2.2.2.1
  have iS := hI.2.2.2.2.1
  refine lots_c hN hn' hn2 (fun s0 hK0 hl0 => ?_)
  have M : Ok (fun (q2 : Int32 × gSt) => ∃ s', gLoop3 (fun (self50 : Int32 → Int32 → gSt → Option (Int32 × gSt)) (v4_50 : Int32) (v5_50 : Int32) (s_50 : gSt) =>
        if 5 ≤ v5_50 then
          some (v4_50, g_sf s_50 11 1)
        else
          (f_X3_startKlass N s_50 v5_50 step).bind (fun (q_62 : Int32 × gSt) =>
          self50 (jmax v4_50 q_62.1) (v5_50 + 1) q_62.2)) N 0 0 s0 = some (q2.1, s') ∧ (∀ i, i < n → s'.1 19 i = q2.2.1 8 i) ∧ (∀ r, r ≤ 11 → r ≠ 8 → q2.2.1 r = τ.1 r) ∧ (∀ k, k ≤ 3 → q2.2.2 k = τ.2 k) ∧ q2.2.2 4 = 1 ∧ q2.2.2 6 = 0 ∧ ∀ i, n ≤ i → q2.2.1 8 i = τ.1 8 i) (f_X10_draw N τ x step) := by
    refine draw_mo hI hN hn hn2 h1 h2 (by omega) hd (fun t0 hM hl => ?_)
    have e8 : ∀ i, i < n → t0.1 8 i = -1 := fun i hi => by
      rw [hM.1 8 (by decide)]
      exact iS.2.2.1 hd i (by omega)
    have e6 : t0.1 6 = τ.1 6 := hM.1 6 (by decide)
    have e7 : t0.1 7 = τ.1 7 := hM.1 7 (by decide)
    have e3 : t0.2 3 = τ.2 3 := hM.2 3 (by decide)
    have D0 : DR n s0 (g_sf t0 4 1) := by
      refine ⟨(hK0.1 16 (by unfold ck; decide)).trans (w6.trans e6.symm), (hK0.1 17 (by unfold ck; decide)).trans (w7.trans e7.symm), fun i hi => ?_, fun i hi => (hl0 i hi).trans (hl i hi).symm, fun i hi => ?_, ?_, ?_⟩
      · show s0.1 19 i = t0.1 8 i
        rw [hK0.1 19 (by unfold ck; decide), w8 i hi, hM.1 8 (by decide)]
        rfl
      · show 0 ≤ (t0.1 7 i).toInt
        rw [e7]
        exact (iE.2.2.2 i (by omega)).1
      · rw [hK0.2 10 (by unfold cf; decide)]
        exact hn'
      · show (t0.2 3).toInt = n
        rw [e3]
        exact hn
    obtain ⟨z, s', t', g1, g2, g3, g4, g5, g6⟩ := classes5 (s0 := s0) (t0 := g_sf t0 4 1) hN hn2 h2 (by show (t0.2 3).toInt = n; rw [e3]; exact hn) 5 N N 0 0 s0 (g_sf t0 4 1) (by omega) (by omega) (by rw [tl0]; omega) (by rw [tl0]; rfl) (by rw [tl0]; omega) D0 ⟨fun _ _ _ => rfl, fun _ _ => rfl, fun _ _ _ => rfl, fun _ _ => rfl, fun _ _ => rfl⟩ (fun i hi => Or.inl (e8 i hi)) (fun i hi h => by
      exfalso
      have h' : (t0.1 6 i).toInt < (0 : Int32).toInt := h
      rw [e6, tl0] at h'
      have := (iE.2.2.1 i (by omega)).1
      omega) (fun i hi _ => e8 i hi)
    obtain ⟨k1, k2, k3, k4, k5⟩ := g4
    refine ⟨(z, t'), g2, g_sf s' 11 1, g1, g3.2.2.1, fun r r1 r2 => (k3 r r1 r2).trans (hM.1 r r1), fun k hk => ?_, (k4 4 (by omega)).trans (by rw [sf_2, if_pos rfl]), ?_, fun i hi => ?_⟩
    · exact (k4 k (by omega)).trans ((show (g_sf t0 4 1).2 k = t0.2 k by rw [sf_2, if_neg (by omega)]).trans ((hM.2 k (by omega)).trans (by rw [sf_2, if_neg (by omega)])))
    · exact (k4 6 (by omega)).trans ((hM.2 6 (Or.inr rfl)).trans (by rw [sf_2, if_pos rfl]))
    · have := k5 i (Or.inr (by show (t0.2 3).toInt ≤ (i : Int); rw [e3, hn]; omega))
      rw [this]
      exact congrFun (hM.1 8 (by decide)) i
  obtain ⟨⟨z, t'⟩, hz, s', hs, hr⟩ := M
  exact ⟨(z, s'), hs, t', hz, hr⟩
theorem sym_draw {σ τ t : gSt} {N : Nat} {x step : Int32} (hR : Rel σ τ) (hI' : Inv t) (hN : 24 < N) (h : Tr τ t) : SymR (f_X10_draw N τ x step) (f_X10_draw N t x step) := by
  have hI := hR.2
  have iE := hI.2.2.2.1
  have ed : t.2 4 = τ.2 4 := h.1.2.2.2.2
  have en : t.2 3 = τ.2 3 := h.1.2.2.2.1
  have hcnt : σ.2 10 = τ.2 3 := hR.1.2.2.2.2.2.1
  by_cases c1 : (0 ≤ x.toInt ∧ x.toInt ≤ 7874) ∧ 1 ≤ step.toInt ∧ step.toInt ≤ 10
  · by_cases c2 : (τ.2 3).toInt ≤ 0 ∨ τ.2 4 ≠ 0
    · rw [draw_no2 c1 c2, draw_no2 c1 (by rw [en, ed]; exact c2)]
      exact SymR.no h
    · have hn : (τ.2 3).toInt = ((τ.2 3).toInt.toNat : Nat) := by have := iE.1; omega
      generalize (τ.2 3).toInt.toNat = n at hn
      have hn2 : n ≤ 24 := by have := iE.2.1; omega
      have hd : τ.2 4 = 0 := by
        by_cases q : τ.2 4 = 0
        · exact q
        · exact absurd (Or.inr q) c2
      have hn0 : 0 < n := by omega
      have st := hR.1.1
      have w8 : ∀ i, i < n → σ.1 19 i = τ.1 8 i := fun i hi => hR.1.2.1 i (by omega)
      obtain ⟨⟨z, s⟩, e0, t1, e1, a1, a2, a3, a4, a5, a6⟩ := draw_x hI hN st.2.2.2.2.2.2.1 st.2.2.2.2.2.2.2.1 w8 (by rw [hcnt]; exact hn) hn hn2 c1.1 c1.2 hn0 hd
      obtain ⟨⟨z', s'⟩, e0', t2, e2, b1, b2, b3, b4, b5, b6⟩ := draw_x (σ := σ) (τ := t) hI' hN (by rw [h.r (r := 6) (by omega) (by omega)]; exact st.2.2.2.2.2.2.1) (by rw [h.r (r := 7) (by omega) (by omega)]; exact st.2.2.2.2.2.2.2.1) (fun i hi => by rw [h.r (r := 8) (by omega) (by omega)]; exact w8 i hi) (by rw [hcnt]; exact hn) (by rw [en]; exact hn) hn2 c1.1 c1.2 hn0 (ed.trans hd)
      have e := Option.some.inj (e0.symm.trans e0')
      obtain ⟨rfl, rfl⟩ : z = z' ∧ s = s' := ⟨congrArg Prod.fst e, congrArg Prod.snd e⟩
      rw [e1, e2]
      refine SymR.yes ?_ (a5.trans b5.symm) rfl
      have r8 : t2.1 8 = t1.1 8 := by
        funext i
        by_cases q : i < n
        · exact (b1 i q).symm.trans (a1 i q)
        · rw [b6 i (by omega), a6 i (by omega), h.r (r := 8) (by omega) (by omega)]
      obtain ⟨⟨h0, h1, h2, h3, h4⟩, hh, hg, hc, hr⟩ := h
      refine ⟨⟨?_, ?_, ?_, ?_, ?_⟩, fun k hk => ?_, fun k hk => ?_, fun k hk => ?_, fun r r3 r11 => ?_⟩
      · rw [b3 0 (by omega), a3 1 (by omega), h0]
      · rw [b3 1 (by omega), a3 0 (by omega), h1]
      · rw [b3 2 (by omega), a3 2 (by omega), h2]
      · rw [b3 3 (by omega), a3 3 (by omega), h3]
      · rw [b4, a4]
      · rw [b2 0 (by omega) (by omega), a2 0 (by omega) (by omega), hh k hk]
      · rw [b2 1 (by omega) (by omega), a2 1 (by omega) (by omega), hg k hk]
      · rw [a3 2 (by omega)] at hk
        rw [b2 2 (by omega) (by omega), a2 2 (by omega) (by omega), hc k hk]
      · by_cases q : r = 8
        · rw [q]; exact r8
        · rw [b2 r r11 q, a2 r r11 q, hr r r3 r11]
  · rw [draw_no c1, draw_no c1]
    exact SymR.no h
