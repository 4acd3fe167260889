/-! ===== pure: draw, put together ===== -/
theorem draw_mo {τ : gSt} {N n : Nat} {x step : Int32} {P : Int32 × gSt → Prop} (hI : Inv τ) (hN : 24 < N) (hn : (τ.2 3).toInt = n) (hn2 : n ≤ 24) (hx : 0 ≤ x.toInt ∧ x.toInt ≤ 7874) (hs : 1 ≤ step.toInt ∧ step.toInt ≤ 10) (h0 : 0 < n) (hd : τ.2 4 = 0) (go : ∀ t, Km (g_sf τ 6 0) t → (∀ i, i < n → t.1 17 i = lotX x (i + 1)) → Ok P (gLoop3 (fun (self107 : Int32 → Int32 → gSt → Option (Int32 × gSt)) (v4_107 : Int32) (v5_107 : Int32) (s_107 : gSt) =>
                  if 5 ≤ v5_107 then
                    some (v4_107, s_107)
                  else
                    (f_X10_next N s_107 v5_107 (-1)).bind (fun (r_120 : Int32) => gLoop4 (bM N v5_107 step (fun a u => self107 a (v5_107 + 1) u)) N v4_107 0 r_120 s_107)) N 0 0 (g_sf t 4 1))) : Ok P (f_X10_draw N τ x step) := by
  unfold f_X10_draw
  refine okf (c := f_X10_in x 0 7874 = 0) (by rw [in_yes (by rw [tl0]; exact hx.1) (show x.toInt ≤ (7874 : Int32).toInt by rw [tl7874]; exact hx.2)]; exact one_ne) ?_
  refine okf (c := f_X10_in step 1 10 = 0) (by rw [in_yes (by rw [tl1]; exact hs.1) (show step.toInt ≤ (10 : Int32).toInt by rw [tl10]; exact hs.2)]; exact one_ne) ?_
  refine okf (c := τ.2 3 ≤ 0) (by rw [tle, tl0]; omega) ?_
  refine okt hd ?_
  refine okf (by rw [asked2_2 one_ne one_ne]; exact one_ne) ?_
  rw [asked2_2 one_ne one_ne]
  refine gLoop3_ok (fun m u (v : Int32) s => (0 ≤ v.toInt ∧ v.toInt ≤ (n : Int)) ∧ (m : Int) = 24 - v.toInt ∧ Km (g_sf τ 6 0) s ∧ u = lotX x v.toInt.toNat ∧ ∀ i : Nat, (i : Int) < v.toInt → s.1 17 i = lotX x (i + 1)) ?_ N 24 x 0 _ hN ⟨by rw [tl0]; omega, by rw [tl0]; rfl, Km.rf, rfl, fun i hi => by rw [tl0] at hi; omega⟩
  intro m u v s self ⟨hv, hm, hK, hu, hl⟩ ih
  have e10 : s.2 3 = τ.2 3 := hK.2 3 (by decide)
  rw [e10]
  by_cases c : τ.2 3 ≤ v
  · refine okt c ?_
    rw [tle, hn] at c
    exact go s hK (fun i hi => hl i (by omega))
  · refine okf c ?_
    rw [tle, hn] at c
    have e1 := inc1 (v := v) (n := 24) (by omega) (by omega)
    refine okf (by rw [tlt, tl0, tcl]; omega) ?_
    refine ih (m - 1) _ (v + 1) _ (by omega) ⟨by rw [e1]; omega, by rw [e1]; omega, hK.pa (by decide), ?_, fun i hi => ?_⟩
    · rw [e1, show (v.toInt + 1).toNat = v.toInt.toNat + 1 by omega, hu]
      rfl
    · rw [e1] at hi
      rw [pa_1, if_pos rfl, upd_at]
      by_cases e : i = v.toInt.toNat
      · rw [if_pos e, hu, e]
        rfl
      · rw [if_neg e]
        exact hl i (by omega)
theorem draw_no {τ : gSt} {N : Nat} {x step : Int32} (h : ¬ ((0 ≤ x.toInt ∧ x.toInt ≤ 7874) ∧ 1 ≤ step.toInt ∧ step.toInt ≤ 10)) : f_X10_draw N τ x step = some (0, g_sf τ 6 1) := by
  unfold f_X10_draw
  simp only [gJoin0, gJoin1, asked2_0, if_true, ite_self]
  by_cases h1 : 0 ≤ x.toInt ∧ x.toInt ≤ 7874
  · rw [in_yes (x := x) (by rw [tl0]; exact h1.1) (by rw [tl7874]; exact h1.2), if_neg one_ne, in_no (x := step) (by rw [tl1, tl10]; omega), if_pos rfl]
  · rw [in_no (x := x) (by rw [tl0, tl7874]; omega), if_pos rfl]
theorem draw_no2 {τ : gSt} {N : Nat} {x step : Int32} (h : (0 ≤ x.toInt ∧ x.toInt ≤ 7874) ∧ 1 ≤ step.toInt ∧ step.toInt ≤ 10) (h2 : (τ.2 3).toInt ≤ 0 ∨ τ.2 4 ≠ 0) : f_X10_draw N τ x step = some (0, g_sf τ 6 2) := by
  unfold f_X10_draw
  simp only [gJoin0, gJoin1]
  rw [in_yes (x := x) (by rw [tl0]; exact h.1.1) (by rw [tl7874]; exact h.1.2), if_neg one_ne, in_yes (x := step) (by rw [tl1]; exact h.2.1) (by rw [tl10]; exact h.2.2), if_neg one_ne]
  simp only [asked2_1 one_ne, if_true]
  by_cases c : τ.2 3 ≤ 0
  · rw [if_pos c]
  · rw [if_neg c, if_neg (h2.elim (fun g => absurd (by rw [tle, tl0]; exact g) c) id)]
theorem owe_draw {N : Nat} (hN : 24 < N) : Owe_draw N := by
  intro σ τ x step hR
  have iE := hR.2.2.2.2.1
  have hcnt : σ.2 10 = τ.2 3 := hR.1.2.2.2.2.2.1
  have hn : (τ.2 3).toInt = ((τ.2 3).toInt.toNat : Nat) := by have := iE.1; omega
  generalize hnn : (τ.2 3).toInt.toNat = n at hn
  have hn2 : n ≤ 24 := by have := iE.2.1; omega
  unfold f_X9_draw
  simp only [gJoin0, gJoin1, drawn_z hR, f_X3_count, hcnt]
  by_cases h1 : 0 ≤ x.toInt ∧ x.toInt ≤ 7874
  · rw [need_yes (x := x) (by rw [tl0]; exact h1.1) (by rw [tl7874]; exact h1.2), if_pos rfl]
    by_cases h2 : 1 ≤ step.toInt ∧ step.toInt ≤ 10
    · rw [need_yes (x := step) (by rw [tl1]; exact h2.1) (by rw [tl10]; exact h2.2), if_pos rfl]
      by_cases c : τ.2 3 ≤ 0
      · rw [if_pos c, state0, if_neg (by decide), draw_no2 ⟨h1, h2⟩ (Or.inl (by rw [tle, tl0] at c; exact c))]
        exact Agr.no hR (by decide) (Or.inr (Or.inr rfl)) rfl
      · rw [if_neg c]
        by_cases hd : τ.2 4 = 0
        · rw [if_pos hd, state1, if_pos rfl]
          rw [tle, tl0] at c
          have hn' : (σ.2 10).toInt = n := by rw [hcnt]; exact hn
          have iS := hR.2.2.2.2.2.1
          have hst := hR.1.1
          have K : Ok (fun (q1 : Int32 × gSt) => ∃ t', f_X10_draw N τ x step = some (q1.1, t') ∧ Rel q1.2 t' ∧ t'.2 6 = 0) (f_X3_drawStarts N σ x step) := by
            refine lots_c hN hn' hn2 (fun s0 hK0 hl0 => ?_)
            have M : Ok (fun (q2 : Int32 × gSt) => ∃ s', gLoop3 (fun (self50 : Int32 → Int32 → gSt → Option (Int32 × gSt)) (v4_50 : Int32) (v5_50 : Int32) (s_50 : gSt) =>
        if 5 ≤ v5_50 then
          some (v4_50, g_sf s_50 11 1)
        else
          (f_X3_startKlass N s_50 v5_50 step).bind (fun (q_62 : Int32 × gSt) =>
          self50 (jmax v4_50 q_62.1) (v5_50 + 1) q_62.2)) N 0 0 s0 = some (q2.1, s') ∧ Rel s' q2.2 ∧ q2.2.2 6 = 0) (f_X10_draw N τ x step) := by
              refine draw_mo hR.2 hN hn hn2 h1 h2 (by omega) hd (fun t0 hM hl => ?_)
              have e8 : ∀ i, i < n → t0.1 8 i = -1 := fun i hi => by
                rw [hM.1 8 (by decide)]
                exact iS.2.2.1 hd i (by omega)
              have e6 : t0.1 6 = τ.1 6 := hM.1 6 (by decide)
              have e7 : t0.1 7 = τ.1 7 := hM.1 7 (by decide)
              have e3 : t0.2 3 = τ.2 3 := hM.2 3 (by decide)
              have D0 : DR n s0 (g_sf t0 4 1) := by
                refine ⟨(hK0.1 16 (by unfold ck; decide)).trans (hst.2.2.2.2.2.2.1.trans e6.symm), (hK0.1 17 (by unfold ck; decide)).trans (hst.2.2.2.2.2.2.2.1.trans e7.symm), fun i hi => ?_, fun i hi => (hl0 i hi).trans (hl i hi).symm, fun i hi => ?_, ?_, ?_⟩
                · show s0.1 19 i = t0.1 8 i
                  rw [hK0.1 19 (by unfold ck; decide), hR.1.2.1 i (by omega), hM.1 8 (by decide)]
                  rfl
                · show 0 ≤ (t0.1 7 i).toInt
                  rw [e7]
                  exact (iE.2.2.2 i (by omega)).1
                · rw [hK0.2 10 (by unfold cf; decide)]
                  exact hn'
                · show (t0.2 3).toInt = n
                  rw [e3]
                  exact hn
              obtain ⟨z, s', t', g1, g2, g3, g4, g5, g6⟩ := classes5 (s0 := s0) (t0 := g_sf t0 4 1) hN hn2 h2 (by show (t0.2 3).toInt = n; rw [e3]; exact hn) 5 N N 0 0 s0 (g_sf t0 4 1) (by omega) (by omega) (by rw [tl0]; omega) (by rw [tl0]; rfl) (by rw [tl0]; omega) D0 ⟨fun _ _ _ => rfl, fun _ _ => rfl, fun _ _ _ => rfl, fun _ _ => rfl, fun _ _ => rfl⟩ (fun i hi => Or.inl (e8 i hi)) (fun i hi h => by
                exfalso
                have h' : (t0.1 6 i).toInt < (0 : Int32).toInt := h
                rw [e6, tl0] at h'
                have := (iE.2.2.1 i (by omega)).1
                omega) (fun i hi _ => e8 i hi)
              refine ⟨(z, t'), g2, g_sf s' 11 1, g1, rel_draw hR.six hn hd hK0 hM g4 g3 g5 g6, ?_⟩
              have k6 := g4.2.2.2.1 6 (Or.inr rfl)
              exact k6.trans ((hM.2 6 (Or.inr rfl)).trans (by rw [sf_2, if_pos rfl]))
            obtain ⟨⟨z, t'⟩, hz, s', hs, hr, h6⟩ := M
            exact ⟨(z, s'), hs, t', hz, hr, h6⟩
          obtain ⟨⟨z, s'⟩, hz, t', ht, hr, h6⟩ := K
          rw [hz, Option.bind_some, ht]
          exact Agr.yes hr (Or.inl rfl) h6 rfl
        · rw [if_neg hd, state0, if_neg (by decide), draw_no2 ⟨h1, h2⟩ (Or.inr hd)]
          exact Agr.no hR (by decide) (Or.inr (Or.inr rfl)) rfl
    · rw [need_no (x := step) (by rw [tl1, tl10]; omega), if_neg (by decide), draw_no (fun h => h2 h.2)]
      exact Agr.no hR (by decide) (Or.inr (Or.inl rfl)) rfl
  · rw [need_no (x := x) (by rw [tl0, tl7874]; omega), if_neg (by decide), draw_no (fun h => h1 h.1)]
    exact Agr.no hR (by decide) (Or.inr (Or.inl rfl)) rfl
