/-! ===== pure: the reference goes through the punches ===== -/
theorem okz {X T : Type} {P : T → Prop} {k : X → Option T} {t : (X → Option T) → Option T} (h : Ok P (t k)) : Ok P (gJoin1 k t) := h
theorem ok0 {T : Type} {P : T → Prop} {k : Option T} {t : Option T → Option T} (h : Ok P (t k)) : Ok P (gJoin0 k t) := h
theorem ok2 {X Y T : Type} {P : T → Prop} {k : X → Y → Option T} {t : (X → Y → Option T) → Option T} (h : Ok P (t k)) : Ok P (gJoin2 k t) := h
/-- an index that holds -/
theorem gd {x : Int32} {n : Nat} (h0 : 0 ≤ x.toInt) (h1 : x.toInt < n) : ¬ (x < 0 ∨ n ≤ x.toNatClampNeg) := by
  rw [tlt, tl0, tcl]
  omega
theorem thr_stay {A : Nat → Nat → Int32} {i k : Nat} (h : lL A i ≤ (thr A i k).1) : ∀ m, thr A i (k + m) = thr A i k := by
  intro m
  induction m with
  | zero => rfl
  | succ m ih =>
    show (if (thr A i (k + m)).1 < lL A i ∧ A 9 (20 * i + (k + m)) = cR A i (thr A i (k + m)).1 then _ else thr A i (k + m)) = _
    rw [if_neg (fun g => by rw [ih] at g; omega), ih]
theorem thr_hit {A : Nat → Nat → Int32} {i k : Nat} (h : (thr A i k).1 < lL A i) (g : A 9 (20 * i + k) = cR A i (thr A i k).1) : thr A i (k + 1) = (sk A i ((thr A i k).1 + 1), upd (thr A i k).2.1 (thr A i k).1 (A 10 (20 * i + k)), (thr A i k).2.2 + 1) := if_pos ⟨h, g⟩
theorem thr_miss {A : Nat → Nat → Int32} {i k : Nat} (g : ¬ ((thr A i k).1 < lL A i ∧ A 9 (20 * i + k) = cR A i (thr A i k).1)) : thr A i (k + 1) = thr A i k := if_neg g
/-- what the reference keeps of a walk through the punches -/
def MG (τ : gSt) (i : Nat) (t : Nat × (Nat → Int32) × Nat) (s : gSt) : Prop := Km τ s ∧ (∀ j, j < 6 → s.1 16 j = t.2.1 j) ∧ (s.2 5).toInt = t.2.2
/-- the runner's numbers in a state of the reference -/
theorem run_at {τ s : gSt} {x : Int32} {i : Nat} (hK : Km τ s) (hx : x.toInt = i) (hA : RF (cor τ) i) : isK (g_ga s 6 x) ∧ (g_ga s 6 x).toInt = kL (cor τ) i ∧ (g_ga s 5 (g_ga s 6 x)).toInt = lL (cor τ) i ∧ (g_ga s 11 x).toInt = pR (cor τ) i := by
  obtain ⟨r1, r2, r3, r4, r5, r6, r7, r8, r9, r10, r11, r12, r13⟩ := hA
  have e6 : g_ga s 6 x = cor τ 6 i := by rw [ga_at hx, hK.1 6 (by decide), cor_at (by decide)]
  have ek : (g_ga s 6 x).toInt = kL (cor τ) i := by rw [e6]; exact r1
  have e5 : g_ga s 5 (g_ga s 6 x) = cor τ 5 (kL (cor τ) i) := by rw [ga_at ek, hK.1 5 (by decide), cor_at (by decide)]
  have e11 : g_ga s 11 x = cor τ 11 i := by rw [ga_at hx, hK.1 11 (by decide), cor_at (by decide)]
  exact ⟨⟨by omega, by omega⟩, ek, by rw [e5]; exact r3, by rw [e11]; exact r9⟩
theorem crs_at {τ s : gSt} {x v : Int32} {i j : Nat} (hK : Km τ s) (hA : RF (cor τ) i) (hx : isK x) (hk : x.toInt = kL (cor τ) i) (hv : v.toInt = j) (hj : j < 6) : (6 * x + v).toInt = 6 * kL (cor τ) i + j ∧ g_ga s 4 (6 * x + v) = cR (cor τ) i j := by
  have e : (6 * x + v).toInt = 6 * kL (cor τ) i + j := by rw [ent_in hx (by omega) (by omega), hk, hv]
  refine ⟨e, ?_⟩
  rw [ga_at (n := 6 * kL (cor τ) i + j) (by rw [e]; omega), hK.1 4 (by decide)]
  unfold cR
  rw [cor_at (by decide)]
theorem fail_at {τ s : gSt} {v : Int32} {i j : Nat} (hK : Km τ s) (hA : RF (cor τ) i) (hj : j < lL (cor τ) i) (hv : v = cR (cor τ) i j) : ¬ (v < 0 ∨ 12 ≤ v.toNatClampNeg) ∧ g_ga s 3 v = fR (cor τ) i j := by
  obtain ⟨r1, r2, r3, r4, r5, r6, r7, r8, r9, r10, r11, r12, r13⟩ := hA
  have c := r6 j hj
  rw [hv]
  refine ⟨gd c.1 c.2, ?_⟩
  unfold fR
  rw [cor_at (τ := τ) (r := 3) (by decide), ← hK.1 3 (by decide)]
  rfl
theorem pun_at {τ s : gSt} {v : Int32} {i k : Nat} (hK : Km τ s) (hv : v.toInt = 20 * i + k) : g_ga s 9 v = cor τ 9 (20 * i + k) ∧ g_ga s 10 v = cor τ 10 (20 * i + k) := by
  rw [ga_at (n := 20 * i + k) (by rw [hv]; omega), ga_at (n := 20 * i + k) (by rw [hv]; omega), hK.1 9 (by decide), hK.1 10 (by decide), cor_at (by decide), cor_at (by decide)]
  exact ⟨rfl, rfl⟩
theorem goes_m {τ : gSt} {N i : Nat} {x : Int32} (hI : Inv τ) (hN : 30 < N) (hx : x.toInt = i) (hi : (i : Int) < (τ.2 3).toInt) : Ok (fun q => q.1 = (if lL (cor τ) i ≤ nX (cor τ) i then 1 else 0) ∧ MG τ i (thr (cor τ) i (pR (cor τ) i)) q.2) (f_X10_goesThrough N τ x) := by
  have hA := RF_of hI hi
  have i24 : i < 24 := by have := hI.2.2.2.1.2.1; omega
  have gx : ¬ (x < 0 ∨ 24 ≤ x.toNatClampNeg) := gd (by omega) (by omega)
  have TT := TF_thr hA
  unfold f_X10_goesThrough
  refine okf gx ?_
  refine gLoop2_ok (fun m (v : Int32) s => (0 ≤ v.toInt ∧ v.toInt ≤ 6) ∧ (m : Int) = 6 - v.toInt ∧ Km τ s ∧ s.2 5 = 0 ∧ ∀ j : Nat, (j : Int) < v.toInt → s.1 16 j = -1) ?_ N 6 0 _ (by omega) ⟨by rw [tl0]; omega, by rw [tl0]; rfl, Km.rf.sf (by decide), by rw [sf_2, if_pos rfl], fun j hj => by rw [tl0] at hj; omega⟩
  intro m v s self ⟨hv, hm, hK, h5, h16⟩ ih
  by_cases c : 6 ≤ v
  · rw [tle, tl6] at c
    refine okt (by rw [tle, tl6]; exact c) (okf gx (okf (by decide) ?_))
    clear ih
    obtain ⟨r1, r2, r3, r4, r5, r6, r7, r8, r9, r10, r11, r12, r13⟩ := id hA
    have hK1 : Km τ (g_pa s 16 0 (g_ga s 8 x)) := hK.pa (by decide)
    have s0 : ∀ j, j < 6 → (g_pa s 16 0 (g_ga s 8 x)).1 16 j = (thr (cor τ) i 0).2.1 j := fun j hj => by
      show (g_pa s 16 0 (g_ga s 8 x)).1 16 j = upd (fun _ => -1) 0 (cor τ 8 i) j
      rw [pa_1, if_pos rfl, upd_at, upd_at, show (0 : Int32).toInt.toNat = 0 from rfl, ga_at hx, hK.1 8 (by decide), cor_at (by decide)]
      by_cases e : j = 0
      · rw [if_pos e, if_pos e]
      · rw [if_neg e, if_neg e]
        exact h16 j (by omega)
    have s5 : ((g_pa s 16 0 (g_ga s 8 x)).2 5).toInt = ((thr (cor τ) i 0).2.2 : Nat) := by
      rw [pa_2, h5]
      rfl
    have e20 : (20 * x).toInt = 20 * i := by rw [tmul (by rw [tl20]; omega), tl20, hx]
    refine gLoop4_ok (fun m (v3 v4 v5 : Int32) s => (v5 = 1 ∧ ∃ k : Nat, k ≤ pR (cor τ) i ∧ (m : Int) = 22 - k ∧ v4.toInt = 20 * i + k ∧ (1 ≤ v3.toInt ∧ v3.toInt ≤ lL (cor τ) i) ∧ sk (cor τ) i v3.toInt.toNat = (thr (cor τ) i k).1 ∧ MG τ i (thr (cor τ) i k) s) ∨ (v5 = 0 ∧ m = 0 ∧ v3.toInt = nX (cor τ) i ∧ MG τ i (thr (cor τ) i (pR (cor τ) i)) s)) ?_ N 22 1 (20 * x) 1 _ (by omega) (Or.inl ⟨rfl, 0, by omega, by omega, by rw [e20]; omega, by rw [tl1]; omega, rfl, hK1, s0, s5⟩)
    intro m v3 v4 v5 s self hL ih
    rcases hL with ⟨rfl, k, hk, hm, h4, h3, hsk, hM⟩ | ⟨rfl, rfl, h3, hM⟩
    · refine okf one_ne ?_
      have hK2 := hM.1
      have hKK : g_ga τ 6 x = g_ga s 6 x := by unfold g_ga; rw [hK2.1 6 (by decide)]
      obtain ⟨k1, k2, k3, k4⟩ := run_at hK2 hx hA
      rw [← hKK] at k1 k2 k3
      have gk : ¬ (g_ga τ 6 x < 0 ∨ 5 ≤ (g_ga τ 6 x).toNatClampNeg) := gd k1.1 k1.2
      obtain ⟨t1, t2, t3, t4, t5, t6, t7, t8⟩ := TT k hk
      refine gLoop1_ok (fun m (v : Int32) => (1 ≤ v.toInt ∧ v.toInt ≤ lL (cor τ) i) ∧ (m : Int) = lL (cor τ) i - v.toInt ∧ sk (cor τ) i v.toInt.toNat = (thr (cor τ) i k).1) ?_ N (lL (cor τ) i - v3.toInt.toNat) v3 (by omega) ⟨h3, by omega, hsk⟩
      intro m2 v self2 ⟨hv2, hm2, hs2⟩ ih2
      refine okf gk (ok0 ?_)
      have ev : v.toInt = (v.toInt.toNat : Nat) := by omega
      generalize hj : v.toInt.toNat = j at *
      have key : j = (thr (cor τ) i k).1 → Ok (fun q => q.1 = (if lL (cor τ) i ≤ nX (cor τ) i then 1 else 0) ∧ MG τ i (thr (cor τ) i (pR (cor τ) i)) q.2) (if g_ga τ 6 x < 0 ∨ 5 ≤ (g_ga τ 6 x).toNatClampNeg then none else
                gJoin1 (fun (w0_127 : Int32) =>
                    gJoin2 (fun (v3_181 : Int32) (s_181 : gSt) =>
                        self v3_181 (v4 + 1) w0_127 s_181) (fun j181 =>
                      if w0_127 = 0 then
                        j181 v s
                      else
                        if v4 < 0 ∨ 480 ≤ v4.toNatClampNeg then none else
                        if (6 * (g_ga τ 6 x)) + v < 0 ∨ 30 ≤ ((6 * (g_ga τ 6 x)) + v).toNatClampNeg then none else
                        if g_ga s 9 v4 = g_ga s 4 ((6 * (g_ga τ 6 x)) + v) then
                          if v4 < 0 ∨ 480 ≤ v4.toNatClampNeg then none else
                          if v < 0 ∨ 6 ≤ v.toNatClampNeg then none else
                          j181 (v + 1) (g_sf (g_pa s 16 v (g_ga s 10 v4)) 5 (((g_pa s 16 v (g_ga s 10 v4)).2 5) + 1))
                        else
                          j181 v s)) (fun j127 =>
                gJoin0 (
                    j127 0) (fun j126 =>
                  if g_ga s 5 (g_ga τ 6 x) ≤ v then
                    j126
                  else
                    if x < 0 ∨ 24 ≤ x.toNatClampNeg then none else
                    if (20 * x) + (g_ga s 11 x) ≤ v4 then
                      j126
                    else
                      j127 1))) := by
        intro hnx
        refine okf gk (okz (ok0 ?_))
        have fin : thr (cor τ) i k = thr (cor τ) i (pR (cor τ) i) → Ok (fun q => q.1 = (if lL (cor τ) i ≤ nX (cor τ) i then 1 else 0) ∧ MG τ i (thr (cor τ) i (pR (cor τ) i)) q.2) (self v (v4 + 1) 0 s) := fun e => ih 0 v (v4 + 1) 0 s (by omega) (Or.inr ⟨rfl, rfl, by unfold nX; rw [← e]; omega, by rw [← e]; exact hM⟩)
        by_cases c1 : g_ga s 5 (g_ga τ 6 x) ≤ v
        · refine okt c1 (ok2 (okt rfl (fin ?_)))
          rw [tle, k3] at c1
          have := thr_stay (A := cor τ) (i := i) (k := k) (by omega) (pR (cor τ) i - k)
          rw [show k + (pR (cor τ) i - k) = pR (cor τ) i by omega] at this
          exact this.symm
        · refine okf c1 (okf gx ?_)
          rw [tle, k3] at c1
          have e21 : ((20 * x) + (g_ga s 11 x)).toInt = 20 * i + pR (cor τ) i := by rw [tadd (by rw [e20, k4]; omega), e20, k4]
          by_cases c2 : (20 * x) + (g_ga s 11 x) ≤ v4
          · refine okt c2 (ok2 (okt rfl (fin ?_)))
            rw [tle, e21, h4] at c2
            rw [show k = pR (cor τ) i by omega]
          · rw [tle, e21, h4] at c2
            refine okf (by rw [tle, e21, h4]; omega) (ok2 (okf one_ne ?_))
            have g4 : ¬ (v4 < 0 ∨ 480 ≤ v4.toNatClampNeg) := gd (by omega) (by omega)
            obtain ⟨ec, eg⟩ := crs_at (s := s) hK2 hA k1 k2 ev (by omega)
            obtain ⟨p9, p10⟩ := pun_at (s := s) hK2 h4
            refine okf g4 (okf (gd (by rw [ec]; omega) (by rw [ec]; omega)) ?_)
            have e1 := inc1 (v := v) (n := 6) (by omega) (by omega)
            have e4 := inc1 (v := v4) (n := 480) (by omega) (by omega)
            rw [p9, eg]
            by_cases c3 : cor τ 9 (20 * i + k) = cR (cor τ) i j
            · refine okt c3 (okf g4 (okf (gd (by omega) (by omega)) ?_))
              have hh := thr_hit (A := cor τ) (i := i) (k := k) (by omega) (by rw [← hnx]; exact c3)
              refine ih (m - 1) (v + 1) (v4 + 1) 1 _ (by omega) (Or.inl ⟨rfl, k + 1, by omega, by omega, by rw [e4, h4]; omega, by rw [e1]; omega, ?_, ?_, ?_, ?_⟩)
              · rw [hh, e1, ← hnx]
                show sk (cor τ) i (v.toInt + 1).toNat = sk (cor τ) i (j + 1)
                rw [show (v.toInt + 1).toNat = j + 1 by omega]
              · exact (hK2.pa (by decide)).sf (by decide)
              · intro j' hj'
                rw [hh, sf_1, pa_1, if_pos rfl, upd_at, p10]
                show _ = upd (thr (cor τ) i k).2.1 (thr (cor τ) i k).1 (cor τ 10 (20 * i + k)) j'
                rw [upd_at, ← hnx, hj]
                by_cases e : j' = j
                · rw [if_pos e, if_pos e]
                · rw [if_neg e, if_neg e]
                  exact hM.2.1 j' hj'
              · have hc := hM.2.2
                rw [hh, sf_2, if_pos rfl, pa_2, inc1 (n := 100) (by omega) (by omega), hc]
                rfl
            · refine okf c3 ?_
              have hh := thr_miss (A := cor τ) (i := i) (k := k) (by rw [← hnx]; exact fun g => c3 g.2)
              refine ih (m - 1) v (v4 + 1) 1 _ (by omega) (Or.inl ⟨rfl, k + 1, by omega, by omega, by rw [e4, h4]; omega, hv2, ?_, ?_⟩)
              · rw [hh, hj]
                exact hs2
              · rw [hh]
                exact hM
      by_cases c1 : g_ga s 5 (g_ga τ 6 x) ≤ v
      · refine okt c1 (key ?_)
        rw [tle, k3] at c1
        rw [← hs2, sk_end (by omega)]
      · refine okf c1 ?_
        rw [tle, k3] at c1
        obtain ⟨ec, eg⟩ := crs_at (s := s) hK2 hA k1 k2 ev (by omega)
        refine okf (gd (by rw [ec]; omega) (by rw [ec]; omega)) ?_
        rw [eg] at key ⊢
        obtain ⟨f1, f2⟩ := fail_at (s := s) hK2 hA (j := j) (by omega) rfl
        refine okf f1 ?_
        rw [f2]
        by_cases c2 : fR (cor τ) i j = 0
        · refine okt c2 (key ?_)
          rw [← hs2, sk_ok (by omega) c2]
        · refine okf c2 ?_
          have e1 := inc1 (v := v) (n := 6) (by omega) (by omega)
          refine ih2 (m2 - 1) (v + 1) (by omega) ⟨by rw [e1]; omega, by rw [e1]; omega, ?_⟩
          rw [e1, show (v.toInt + 1).toNat = j + 1 by omega, ← sk_go (by omega) c2]
          exact hs2
    · refine okt rfl ?_
      have hK2 := hM.1
      have hKK : g_ga τ 6 x = g_ga s 6 x := by unfold g_ga; rw [hK2.1 6 (by decide)]
      obtain ⟨k1, k2, k3, k4⟩ := run_at hK2 hx hA
      rw [← hKK] at k1 k2 k3
      refine okf (gd k1.1 k1.2) ?_
      by_cases c1 : v3 < g_ga s 5 (g_ga τ 6 x)
      · refine okt c1 (Ok.some ⟨?_, hM⟩)
        rw [tlt, k3] at c1
        exact (if_neg (by omega)).symm
      · refine okf c1 (Ok.some ⟨?_, hM⟩)
        rw [tlt, k3] at c1
        exact (if_pos (by omega)).symm
  · rw [tle, tl6] at c
    refine okf (by rw [tle, tl6]; exact c) (okf (gd hv.1 (by omega)) ?_)
    have e1 := inc1 (v := v) (n := 6) (by omega) (by omega)
    refine ih (m - 1) (v + 1) _ (by omega) ⟨by rw [e1]; omega, by rw [e1]; omega, hK.pa (by decide), by rw [pa_2]; exact h5, fun j hj => ?_⟩
    rw [e1] at hj
    rw [pa_1, if_pos rfl, upd_at]
    by_cases e : j = v.toInt.toNat
    · rw [if_pos e]
    · rw [if_neg e]
      exact h16 j (by omega)
