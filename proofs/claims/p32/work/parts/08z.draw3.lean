/-! ===== pure: the lots on both sides ===== -/
theorem lots_c {σ : gSt} {N n : Nat} {x step : Int32} {P : Int32 × gSt → Prop} (hN : 24 < N) (hn : (σ.2 10).toInt = n) (hn2 : n ≤ 24) (go : ∀ s, Kc σ s → (∀ i, i < n → s.1 18 i = lotX x (i + 1)) → Ok P (gLoop3 (fun (self50 : Int32 → Int32 → gSt → Option (Int32 × gSt)) (v4_50 : Int32) (v5_50 : Int32) (s_50 : gSt) =>
        if 5 ≤ v5_50 then
          some (v4_50, g_sf s_50 11 1)
        else
          (f_X3_startKlass N s_50 v5_50 step).bind (fun (q_62 : Int32 × gSt) =>
          self50 (jmax v4_50 q_62.1) (v5_50 + 1) q_62.2)) N 0 0 s)) : Ok P (f_X3_drawStarts N σ x step) := by
  unfold f_X3_drawStarts
  refine gLoop3_ok (fun m u (v : Int32) s => (0 ≤ v.toInt ∧ v.toInt ≤ (n : Int)) ∧ (m : Int) = 24 - v.toInt ∧ Kc σ s ∧ u = lotX x v.toInt.toNat ∧ ∀ i : Nat, (i : Int) < v.toInt → s.1 18 i = lotX x (i + 1)) ?_ N 24 x 0 σ hN ⟨by rw [tl0]; omega, by rw [tl0]; rfl, Kc.rf, rfl, fun i hi => by rw [tl0] at hi; omega⟩
  intro m u v s self ⟨hv, hm, hK, hu, hl⟩ ih
  have e10 : s.2 10 = σ.2 10 := hK.2 10 (by unfold cf; decide)
  rw [e10]
  by_cases c : σ.2 10 ≤ v
  · refine okt c (go s hK (fun i hi => hl i ?_))
    rw [tle, hn] at c
    omega
  · refine okf c ?_
    rw [tle, hn] at c
    have e1 := inc1 (v := v) (n := 24) (by omega) (by omega)
    refine ih (m - 1) _ (v + 1) _ (by omega) ⟨by rw [e1]; omega, by rw [e1]; omega, ?_, ?_, fun i hi => ?_⟩
    · rw [gput_pa hv.1 (by rw [len30.2.2.2.2.2.2.2.2.2]; omega)]
      exact hK.sa (by unfold ck; decide)
    · rw [e1, show (v.toInt + 1).toNat = v.toInt.toNat + 1 by omega, hu]
      rfl
    · rw [e1] at hi
      rw [gput_pa hv.1 (by rw [len30.2.2.2.2.2.2.2.2.2]; omega), pa_1, if_pos rfl, upd_at]
      by_cases e : i = v.toInt.toNat
      · rw [if_pos e, hu, e]
        rfl
      · rw [if_neg e]
        exact hl i (by omega)
/-- all five classes, on both sides at once -/
theorem classes5 {n N : Nat} {s0 t0 : gSt} {step : Int32} (hN : 24 < N) (hn : n ≤ 24) (hst : 1 ≤ step.toInt ∧ step.toInt ≤ 10) (h30 : (t0.2 3).toInt = n) : ∀ (m nC nM : Nat) (acc v : Int32) (s t : gSt), m < nC → m < nM → (0 ≤ v.toInt ∧ v.toInt ≤ 5) → (m : Int) = 5 - v.toInt → 0 ≤ acc.toInt → DR n s t → KD s0 t0 s t → SD n t → (∀ i, i < n → (t.1 6 i).toInt < v.toInt → t.1 8 i ≠ -1) → (∀ i, i < n → v.toInt ≤ (t.1 6 i).toInt → t.1 8 i = -1) →
    ∃ z s' t', gLoop3 (fun (self50 : Int32 → Int32 → gSt → Option (Int32 × gSt)) (v4_50 : Int32) (v5_50 : Int32) (s_50 : gSt) =>
        if 5 ≤ v5_50 then
          some (v4_50, g_sf s_50 11 1)
        else
          (f_X3_startKlass N s_50 v5_50 step).bind (fun (q_62 : Int32 × gSt) =>
          self50 (jmax v4_50 q_62.1) (v5_50 + 1) q_62.2)) nC acc v s = some (z, g_sf s' 11 1) ∧ gLoop3 (fun (self107 : Int32 → Int32 → gSt → Option (Int32 × gSt)) (v4_107 : Int32) (v5_107 : Int32) (s_107 : gSt) =>
                  if 5 ≤ v5_107 then
                    some (v4_107, s_107)
                  else
                    (f_X10_next N s_107 v5_107 (-1)).bind (fun (r_120 : Int32) => gLoop4 (bM N v5_107 step (fun a u => self107 a (v5_107 + 1) u)) N v4_107 0 r_120 s_107)) nM acc v t = some (z, t') ∧ DR n s' t' ∧ KD s0 t0 s' t' ∧ SD n t' ∧ (∀ i, i < n → (t'.1 6 i).toInt < 5 → t'.1 8 i ≠ -1) := by
  intro m
  induction m with
  | zero =>
    intro nC nM acc v s t h1 h2 h5 hm ha hD hK hS hA hB
    obtain ⟨nC, rfl⟩ : ∃ x, nC = x + 1 := ⟨nC - 1, by omega⟩
    obtain ⟨nM, rfl⟩ : ∃ x, nM = x + 1 := ⟨nM - 1, by omega⟩
    exact ⟨acc, s, t, if_pos (by rw [tle, tl5]; omega), if_pos (by rw [tle, tl5]; omega), hD, hK, hS, fun i hi h => hA i hi (by omega)⟩
  | succ m ih =>
    intro nC nM acc v s t h1 h2 h5 hm ha hD hK hS hA hB
    obtain ⟨nC, rfl⟩ : ∃ x, nC = x + 1 := ⟨nC - 1, by omega⟩
    obtain ⟨nM, rfl⟩ : ∃ x, nM = x + 1 := ⟨nM - 1, by omega⟩
    have e1 := inc1 (v := v) (n := 5) (by omega) (by omega)
    obtain ⟨r, q, p1, p2, p3, p4, p5, p6⟩ := pick_eq (k := v) (av := -1) hN hn hD
    have rq : r = q := Option.some.inj (p1.symm.trans p2)
    subst rq
    rw [ite_self] at p3 p5 p6
    have z0 : (0 : Int32) * step = 0 := Int32.zero_mul
    have hc : cnt (fun i => t.1 6 i = v ∧ t.1 8 i ≠ -1) n = 0 := cnt_none n (fun i hi g => g.2 (hB i hi (by rw [g.1]; omega)))
    obtain ⟨z, s', t', i1, i2, i3, i4, i5, i6, i7, i8, i9⟩ := startK (K := fun a u => gLoop3 (fun (self107 : Int32 → Int32 → gSt → Option (Int32 × gSt)) (v4_107 : Int32) (v5_107 : Int32) (s_107 : gSt) =>
                  if 5 ≤ v5_107 then
                    some (v4_107, s_107)
                  else
                    (f_X10_next N s_107 v5_107 (-1)).bind (fun (r_120 : Int32) => gLoop4 (bM N v5_107 step (fun a u => self107 a (v5_107 + 1) u)) N v4_107 0 r_120 s_107)) nM a (v + 1) u) (acc0 := acc) (k := v) hN hn hst h30 ha n N N 0 r 0 s t acc (by omega) (by omega) (by rw [tl0]; omega) (by rw [tl0]; omega) (by rw [tl0]; omega) (by rw [teq, tmax, tl0]; omega) hD hK hS (by rw [hc, tl0]; rfl) p5 p6
    have t6 : t'.1 6 = t.1 6 := (i4.2.2.1 6 (by decide) (by decide)).trans (hK.2.2.1 6 (by decide) (by decide)).symm
    obtain ⟨z2, s2, t2, j1, j2, j3, j4, j5, j6⟩ := ih nC nM (jmax acc z) (v + 1) s' t' (by omega) (by omega) (by rw [e1]; omega) (by rw [e1]; omega) (by rw [tmax]; omega) i3 i4 i5 (fun i hi h => by
      rw [t6, e1] at h
      by_cases e : t.1 6 i = v
      · exact fun g => i6 i hi ⟨by rw [t6]; exact e, g⟩
      · exact i8 i hi (hA i hi (by rw [teq] at e; omega))) (fun i hi h => by
      rw [t6, e1] at h
      rw [i9 i hi (fun e => by rw [e] at h; omega)]
      exact hB i hi (by omega))
    rw [z0] at i2
    refine ⟨z2, s2, t2, ?_, ?_, j3, j4, j5, j6⟩
    · refine (if_neg (by rw [tle, tl5]; omega)).trans ?_
      have ek : f_X3_startKlass N s v step = some (z, s') := by
        unfold f_X3_startKlass
        rw [p1, Option.bind_some]
        exact i1
      rw [ek, Option.bind_some]
      exact j1
    · refine (if_neg (by rw [tle, tl5]; omega)).trans ?_
      rw [p3, Option.bind_some]
      exact i2.trans j2
