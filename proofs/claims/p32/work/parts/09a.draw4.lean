/-! ===== pure: draw, the end ===== -/
theorem rel_draw {σ τ s0 t0 s t : gSt} {n : Nat} (hR : Rel σ τ) (hn : (τ.2 3).toInt = n) (hd : τ.2 4 = 0) (h1 : Kc σ s0) (h2 : Km τ t0) (hK : KD s0 (g_sf t0 4 1) s t) (hD : DR n s t) (hS : SD n t) (hA : ∀ i, i < n → (t.1 6 i).toInt < 5 → t.1 8 i ≠ -1) : Rel (g_sf s 11 1) t := by
  obtain ⟨⟨⟨a1, a2, a3, a4, a5, a6, a7, a8, a9, a10, a11⟩, s2, b1, b2, b3, b4, b5⟩, iT, iC, iV, iE, iS, iP⟩ := hR
  obtain ⟨k1, k2, k3, k4, k5⟩ := hK
  obtain ⟨d1, d2, d3, d4, d5, d6, d7⟩ := hD
  have S1 : ∀ r, ck r → r ≠ 19 → s.1 r = σ.1 r := fun r hr hn => (k1 r hr hn).trans (h1.1 r hr)
  have S2 : ∀ k, cf k → s.2 k = σ.2 k := fun k hk => (k2 k hk).trans (h1.2 k hk)
  have T1 : ∀ r, r ≤ 11 → r ≠ 8 → t.1 r = τ.1 r := fun r hr hn => (k3 r hr hn).trans (h2.1 r hr)
  have T2 : ∀ k, k ≤ 3 → t.2 k = τ.2 k := fun k hk => (k4 k (by omega)).trans ((show (g_sf t0 4 1).2 k = t0.2 k by rw [sf_2, if_neg (by omega)]).trans (h2.2 k (by omega)))
  have T4 : t.2 4 = 1 := (k4 4 (by omega)).trans (by rw [sf_2, if_pos rfl])
  have P0 : ∀ k, t.1 11 k = 0 := fun k => by rw [T1 11 (by decide) (by decide)]; exact iP.2.1 hd k
  have hn24 : n ≤ 24 := by have := iE.2.1; omega
  refine ⟨⟨⟨(S1 0 (by unfold ck; decide) (by decide)).trans (a1.trans (T1 0 (by decide) (by decide)).symm), (S1 1 (by unfold ck; decide) (by decide)).trans (a2.trans (T1 1 (by decide) (by decide)).symm), (S1 8 (by unfold ck; decide) (by decide)).trans (a3.trans (T1 2 (by decide) (by decide)).symm), (S1 9 (by unfold ck; decide) (by decide)).trans (a4.trans (T1 3 (by decide) (by decide)).symm), (S1 10 (by unfold ck; decide) (by decide)).trans (a5.trans (T1 4 (by decide) (by decide)).symm), (S1 11 (by unfold ck; decide) (by decide)).trans (a6.trans (T1 5 (by decide) (by decide)).symm), (S1 16 (by unfold ck; decide) (by decide)).trans (a7.trans (T1 6 (by decide) (by decide)).symm), (S1 17 (by unfold ck; decide) (by decide)).trans (a8.trans (T1 7 (by decide) (by decide)).symm), (S1 20 (by unfold ck; decide) (by decide)).trans (a9.trans (T1 11 (by decide) (by decide)).symm), (S1 21 (by unfold ck; decide) (by decide)).trans (a10.trans (T1 9 (by decide) (by decide)).symm), (S1 22 (by unfold ck; decide) (by decide)).trans (a11.trans (T1 10 (by decide) (by decide)).symm)⟩, fun k hk => d3 k (by omega), (S2 0 (by unfold cf; decide)).trans (b1.trans (T2 0 (by decide)).symm), (S2 1 (by unfold cf; decide)).trans (b2.trans (T2 1 (by decide)).symm), (S2 4 (by unfold cf; decide)).trans (b3.trans (T2 2 (by decide)).symm), (S2 10 (by unfold cf; decide)).trans (b4.trans (T2 3 (by decide)).symm), T4.symm⟩, ?_, ?_, ?_, ?_, ?_, ?_⟩
  · unfold InvT
    rw [T1 0 (by decide) (by decide), T1 1 (by decide) (by decide), T2 0 (by decide), T2 1 (by decide)]
    exact iT
  · unfold InvC
    rw [T1 2 (by decide) (by decide), T1 3 (by decide) (by decide), T2 0 (by decide), T2 1 (by decide), T2 2 (by decide)]
    exact iC
  · unfold InvV
    rw [T1 5 (by decide) (by decide), T1 4 (by decide) (by decide), T2 2 (by decide)]
    exact iV
  · unfold InvE
    rw [T1 5 (by decide) (by decide), T1 6 (by decide) (by decide), T1 7 (by decide) (by decide), T2 3 (by decide)]
    exact iE
  · refine ⟨Or.inr T4, fun k hk hk2 => ?_, fun h => ?_, fun _ k hk => ?_⟩
    · rw [k5 k (Or.inr ?_), sf_1, h2.1 8 (by decide)]
      · rw [T2 3 (by decide)] at hk
        exact iS.2.1 k hk hk2
      · rw [sf_2, if_neg (by decide), h2.2 3 (by decide)]
        rw [T2 3 (by decide)] at hk
        exact hk
    · rw [T4] at h
      exact absurd h one_ne
    · have hk2 : k < n := by omega
      have hc := (iE.2.2.1 k (by omega)).2.1
      exact (hS k hk2).elim (fun g => absurd g (hA k hk2 (by rw [T1 6 (by decide) (by decide)]; omega))) id
  · refine ⟨fun k => by rw [P0 k, tl0]; omega, fun _ => P0, fun i j _ h => ?_, fun i j k _ _ h => ?_⟩
    · rw [P0 i, tl0] at h; omega
    · rw [P0 i, tl0] at h; omega
