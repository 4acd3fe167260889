/-! ===== pure: turned maps: cost, climb, tempts, courses' sums, spread ===== -/
theorem sym_cost {τ t : gSt} {N : Nat} {x y : Int32} (hI : Inv τ) (hI' : Inv t) (hN : 1000000000000000000000 < N) (h : Tr τ t) : SymR (f_X10_cost N τ x y) (f_X10_cost N t x y) := by
  unfold f_X10_cost
  simp only [gJoin1, gJoin0]
  by_cases h1 : isC τ x
  · have h1' := h.ctl.mpr h1
    rw [ctl_yes hI.2.1 h1, ctl_yes hI'.2.1 h1', if_neg one_ne, if_neg one_ne]
    by_cases h2 : isC τ y
    · have h2' := h.ctl.mpr h2
      rw [ctl_yes hI.2.1 h2, ctl_yes hI'.2.1 h2', if_neg one_ne, if_neg one_ne, asked1, asked1, if_neg one_ne, if_neg one_ne]
      have h6 : Tr (g_sf τ 6 0) (g_sf t 6 0) := h.six
      obtain ⟨⟨b, s⟩, e2, hb, hM⟩ := costOf_m (s := g_sf τ 6 0) hI.six Km.rf hN h1 h2
      obtain ⟨⟨b', s'⟩, e2', hb', hM'⟩ := costOf_m (s := g_sf t 6 0) hI'.six Km.rf hN h1' h2'
      rw [e2, e2', Option.bind_some, Option.bind_some]
      exact SymR.yes (h6.keep hM.1 hM'.1) ((six0 hM.1).trans (six0 hM'.1).symm) (hb.trans ((dC_cl hI.six hI'.six hN h6 h1 h2).1 ▸ hb'.symm))
    · rw [ctl_no hI.2.1 h2, ctl_no hI'.2.1 (fun e => h2 (h.ctl.mp e)), if_pos rfl, if_pos rfl, asked0, asked0, if_pos rfl, if_pos rfl]
      exact SymR.no h
  · rw [ctl_no hI.2.1 h1, ctl_no hI'.2.1 (fun e => h1 (h.ctl.mp e)), if_pos rfl, if_pos rfl, asked0, asked0, if_pos rfl, if_pos rfl]
    exact SymR.no h
theorem sym_costByCells {τ t : gSt} {N : Nat} {x y : Int32} (hI : Inv τ) (hI' : Inv t) (hN : 1000000000000000000000 < N) (h : Tr τ t) : SymR (f_X10_costByCells N τ x y) (f_X10_costByCells N t x y) := by
  obtain ⟨b, s, b', s', e1, e2, h6, hb, hT⟩ := sym_cost (x := x) (y := y) hI hI' hN h
  unfold f_X10_costByCells
  rw [e1, e2, Option.bind_some, Option.bind_some]
  exact ⟨b, s, b', s', rfl, rfl, h6, hb, hT⟩
/-- the reference's climb -/
theorem climb_y {τ : gSt} {N : Nat} {x y : Int32} (hI : Inv τ) (hN : 1000000000000000000000 < N) (h1 : isC τ x) (h2 : isC τ y) : Ok (fun (q : Int32 × gSt) => q.1 = dK N (g_sf τ 6 0) 0 (cl (g_sf τ 6 0) x) (cl (g_sf τ 6 0) y) ∧ Km (g_sf τ 6 0) q.2) (f_X10_climb N τ x y) := by
  have hI6 : Inv (g_sf τ 6 0) := hI.six
  unfold f_X10_climb
  simp only [gJoin1, gJoin0]
  rw [ctl_yes hI.2.1 h1, if_neg one_ne, ctl_yes hI.2.1 h2, if_neg one_ne, asked1, if_neg one_ne]
  obtain ⟨a1, a2, a3⟩ := cl_in hI6 h1
  obtain ⟨b1, b2, b3⟩ := cl_in hI6 h2
  obtain ⟨⟨b, s⟩, e2, hb, hM⟩ := costOf_m (s := g_sf τ 6 0) hI6 Km.rf hN h1 h2
  have e3 : g_ga s 2 y = τ.1 2 y.toInt.toNat := by unfold g_ga; rw [tcl, hM.1.1 2 (by decide)]; rfl
  have e4 : g_ga s 15 (τ.1 2 y.toInt.toNat) = s.1 15 (cl τ y) := ga_at b3
  rw [e2, Option.bind_some]
  have hv := hM.2.2 _ b2
  dsimp only at hb ⊢
  rcases dC_ok (z := 0) hI6.1 hN a2 b2 with ⟨o1, o2⟩ | ⟨o1, o2⟩
  · rw [hb, o1, if_pos rfl]
    exact Ok.some ⟨o2.symm, hM.1⟩
  · rw [hb, if_neg (fun e => by rw [e, tlm1] at o1; omega), if_neg (ctl12 hI h2), e3, if_neg (gd (n := 144) (x := τ.1 2 y.toInt.toNat) (by have := b3; show 0 ≤ ((g_sf τ 6 0).1 2 y.toInt.toNat).toInt; omega) (by have := b3; show ((g_sf τ 6 0).1 2 y.toInt.toNat).toInt < _; omega)), e4]
    refine Ok.some ⟨?_, hM.1⟩
    have hv2 := hv.2
    unfold rk at hv2
    by_cases c : s.1 14 (cl (g_sf τ 6 0) y) = 1000000000
    · have hv1 := hv.1
      unfold rv at hv1
      rw [if_pos c] at hv1
      rw [← hv1, tlm1] at o1
      omega
    · rw [if_neg c] at hv2
      exact hv2
theorem climb_n {τ : gSt} {N : Nat} {x y : Int32} (hI : Inv τ) (h : ¬ (isC τ x ∧ isC τ y)) : f_X10_climb N τ x y = some (0, g_sf τ 6 1) := by
  unfold f_X10_climb
  simp only [gJoin1, gJoin0]
  by_cases h1 : isC τ x
  · rw [ctl_yes hI.2.1 h1, if_neg one_ne, ctl_no hI.2.1 (bothC h h1), if_pos rfl, asked0, if_pos rfl]
  · rw [ctl_no hI.2.1 h1, if_pos rfl, asked0, if_pos rfl]
theorem sym_climb {τ t : gSt} {N : Nat} {x y : Int32} (hI : Inv τ) (hI' : Inv t) (hN : 1000000000000000000000 < N) (h : Tr τ t) : SymR (f_X10_climb N τ x y) (f_X10_climb N t x y) := by
  by_cases c : isC τ x ∧ isC τ y
  · refine SymR.of h (climb_y hI hN c.1 c.2) (climb_y hI' hN (h.ctl.mpr c.1) (h.ctl.mpr c.2)) ?_
    rintro p q ⟨p1, p2⟩ ⟨q1, q2⟩
    rw [(dC_cl hI.six hI'.six hN (h.six (x := 0) (y := 0)) c.1 c.2).2] at q1
    exact ⟨p1.trans q1.symm, p2, q2⟩
  · rw [climb_n hI c, climb_n hI' (fun e => c ⟨h.ctl.mp e.1, h.ctl.mp e.2⟩)]
    exact SymR.no h
/-- whether a leg tempts, out of its two costs -/
def tmF (x y a b : Int32) : Int32 := if x = y then 0 else if a = -1 then 1 else if a ≤ b then 0 else 1
theorem tempts_y {τ : gSt} {N : Nat} {x y : Int32} (hI : Inv τ) (hN : 1000000000000000000000 < N) (h1 : isC τ x) (h2 : isC τ y) : Ok (fun (q : Int32 × gSt) => q.1 = tmF x y (dC N (g_sf τ 6 0) 0 (cl (g_sf τ 6 0) x) (cl (g_sf τ 6 0) y)) (dC N (g_sf τ 6 0) 1 (cl (g_sf τ 6 0) x) (cl (g_sf τ 6 0) y)) ∧ Km (g_sf τ 6 0) q.2) (f_X10_tempts N τ x y) := by
  have hI6 : Inv (g_sf τ 6 0) := hI.six
  unfold f_X10_tempts tmF
  simp only [gJoin1, gJoin0]
  rw [ctl_yes hI.2.1 h1, if_neg one_ne, ctl_yes hI.2.1 h2, if_neg one_ne, asked1, if_neg one_ne]
  obtain ⟨a1, a2, a3⟩ := cl_in hI6 h1
  obtain ⟨b1, b2, b3⟩ := cl_in hI6 h2
  by_cases c : x = y
  · rw [if_pos c]
    simp only [if_pos c]
    exact Ok.some ⟨rfl, Km.rf⟩
  · rw [if_neg c]
    simp only [if_neg c]
    obtain ⟨⟨b, s⟩, e3, hb, hM⟩ := costOf_m (s := g_sf τ 6 0) hI6 Km.rf hN h1 h2
    have e5 : g_ga s 2 x = (g_sf τ 6 0).1 2 x.toInt.toNat := by unfold g_ga; rw [tcl, hM.1.1 2 (by decide)]
    obtain ⟨t', e4, hK4, -, ht'⟩ := find_m (z := 1) hI6.1 hM.1 hN a3 a2
    rw [e3, Option.bind_some]
    dsimp only at hb ⊢
    rw [if_neg (ctl12 hI h1), e5, e4, Option.bind_some, hb]
    by_cases c2 : dC N (g_sf τ 6 0) 0 (cl (g_sf τ 6 0) x) (cl (g_sf τ 6 0) y) = -1
    · rw [if_pos c2]
      simp only [if_pos c2]
      exact Ok.some ⟨rfl, hK4⟩
    · have hm := dC_mono hI6.1 hN a2 b2 c2
      have e6 : g_ga t' 2 y = (g_sf τ 6 0).1 2 y.toInt.toNat := by unfold g_ga; rw [tcl, hK4.1 2 (by decide)]
      have e7 : g_ga t' 14 ((g_sf τ 6 0).1 2 y.toInt.toNat) = t'.1 14 (cl (g_sf τ 6 0) y) := ga_at b3
      have hv := (ht' _ b2).1
      unfold rv at hv
      have nf : ¬ t'.1 14 (cl (g_sf τ 6 0) y) = 1000000000 := fun e => by
        rw [if_pos e] at hv
        exact hm hv.symm
      rw [if_neg nf] at hv
      rw [if_neg c2, if_neg (ctl12 hI h2), e6, if_neg (gd (n := 144) (by omega) (by omega)), e7, hv]
      simp only [if_neg c2]
      by_cases c3 : dC N (g_sf τ 6 0) 0 (cl (g_sf τ 6 0) x) (cl (g_sf τ 6 0) y) ≤ dC N (g_sf τ 6 0) 1 (cl (g_sf τ 6 0) x) (cl (g_sf τ 6 0) y)
      · simp only [if_pos c3]
        exact Ok.some ⟨rfl, hK4⟩
      · simp only [if_neg c3]
        exact Ok.some ⟨rfl, hK4⟩
theorem tempts_n {τ : gSt} {N : Nat} {x y : Int32} (hI : Inv τ) (h : ¬ (isC τ x ∧ isC τ y)) : f_X10_tempts N τ x y = some (0, g_sf τ 6 1) := by
  unfold f_X10_tempts
  simp only [gJoin1, gJoin0]
  by_cases h1 : isC τ x
  · rw [ctl_yes hI.2.1 h1, if_neg one_ne, ctl_no hI.2.1 (bothC h h1), if_pos rfl, asked0, if_pos rfl]
  · rw [ctl_no hI.2.1 h1, if_pos rfl, asked0, if_pos rfl]
theorem sym_tempts {τ t : gSt} {N : Nat} {x y : Int32} (hI : Inv τ) (hI' : Inv t) (hN : 1000000000000000000000 < N) (h : Tr τ t) : SymR (f_X10_tempts N τ x y) (f_X10_tempts N t x y) := by
  by_cases c : isC τ x ∧ isC τ y
  · refine SymR.of h (tempts_y hI hN c.1 c.2) (tempts_y hI' hN (h.ctl.mpr c.1) (h.ctl.mpr c.2)) ?_
    rintro p q ⟨p1, p2⟩ ⟨q1, q2⟩
    rw [(dC_cl (z := 0) hI.six hI'.six hN (h.six (x := 0) (y := 0)) c.1 c.2).1, (dC_cl (z := 1) hI.six hI'.six hN (h.six (x := 0) (y := 0)) c.1 c.2).1] at q1
    exact ⟨p1.trans q1.symm, p2, q2⟩
  · rw [tempts_n hI c, tempts_n hI' (fun e => c ⟨h.ctl.mp e.1, h.ctl.mp e.2⟩)]
    exact SymR.no h
theorem lg_tp {τ t : gSt} {N L : Nat} {o : Nat → Int32} (hI : Inv τ) (hI' : Inv t) (hN : 1000000000000000000000 < N) (h : Tr τ t) (ho : ∀ j, j < L → isC τ (o j)) : ∀ m, m < L - 1 → lgC N t o m = lgC N τ o m ∧ lgK N t o m = lgK N τ o m := fun m hm => by
  have := dC_cl (N := N) (z := 0) hI hI' hN h (ho m (by omega)) (ho (m + 1) (by omega))
  exact this
theorem tot2_tp {τ t : gSt} {N L : Nat} {z : Int32} {o : Nat → Int32} (hI : Inv τ) (hI' : Inv t) (hN : 1000000000000000000000 < N) (h : Tr τ t) (ho : ∀ j, j < L → isC τ (o j)) : tot2 N t z o L = tot2 N τ z o L := by
  unfold tot2 totR
  have g := lg_tp hI hI' hN h ho
  by_cases c : L < 2
  · rw [if_pos c, if_pos c]
  · rw [if_neg c, if_neg c]
    refine sum_congr _ (fun m hm => ⟨(g m hm).1, ?_⟩)
    by_cases c2 : z = 0
    · rw [if_pos c2, if_pos c2]; exact (g m hm).1
    · rw [if_neg c2, if_neg c2]; exact (g m hm).2
theorem crs_tp {τ t : gSt} (h : Tr τ t) (c : Nat) : oC t c = oC τ c ∧ ln t c = ln τ c := by
  unfold ln
  rw [h.r (r := 5) (by omega) (by omega)]
  refine ⟨?_, rfl⟩
  funext j
  unfold oC
  rw [h.r (r := 4) (by omega) (by omega)]
theorem crsum_tp {τ t : gSt} {N c : Nat} {z : Int32} (hI : Inv τ) (hI' : Inv t) (hN : 1000000000000000000000 < N) (h : Tr τ t) (hc : c < 5) : tot2 N t z (oC t c) (ln t c) = tot2 N τ z (oC τ c) (ln τ c) := by
  rw [(crs_tp h c).1, (crs_tp h c).2]
  exact tot2_tp hI hI' hN h (crs_in hI hc).2.2
theorem sym_courseClimb {τ t : gSt} {N : Nat} {x : Int32} (hI : Inv τ) (hI' : Inv t) (hN : 1000000000000000000000 < N) (h : Tr τ t) : SymR (f_X10_courseClimb N τ x) (f_X10_courseClimb N t x) := by
  unfold f_X10_courseClimb
  by_cases hk : isK x
  · have h1 := hk.1
    have h2 := hk.2
    rw [klass_yes hk, asked1, asked1, if_neg one_ne, if_neg one_ne]
    have h6 : Tr (g_sf τ 6 0) (g_sf t 6 0) := h.six
    obtain ⟨⟨b, s⟩, e2, hb, hKm⟩ := sumCourse_m (c := x.toInt.toNat) (z := 1) hI.six (Km.rf (σ := g_sf τ 6 0)) hN (show x.toInt = _ by omega) (by omega)
    obtain ⟨⟨b', s'⟩, e2', hb', hKm'⟩ := sumCourse_m (c := x.toInt.toNat) (z := 1) hI'.six (Km.rf (σ := g_sf t 6 0)) hN (show x.toInt = _ by omega) (by omega)
    rw [e2, e2', Option.bind_some, Option.bind_some]
    exact SymR.yes (h6.keep hKm hKm') ((six0 hKm).trans (six0 hKm').symm) (hb.trans (crsum_tp (z := 1) hI.six hI'.six hN h6 (c := x.toInt.toNat) (by omega) ▸ hb'.symm))
  · rw [klass_no hk, asked0, asked0]
    exact SymR.no h
theorem sym_courseCost {τ t : gSt} {N : Nat} {x : Int32} (hI : Inv τ) (hI' : Inv t) (hN : 1000000000000000000000 < N) (h : Tr τ t) : SymR (f_X10_courseCost N τ x) (f_X10_courseCost N t x) := by
  unfold f_X10_courseCost
  by_cases hk : isK x
  · have h1 := hk.1
    have h2 := hk.2
    rw [klass_yes hk, asked1, asked1, if_neg one_ne, if_neg one_ne]
    have h6 : Tr (g_sf τ 6 0) (g_sf t 6 0) := h.six
    obtain ⟨⟨b, s⟩, e2, hb, hKm⟩ := sumCourse_m (c := x.toInt.toNat) (z := 0) hI.six (Km.rf (σ := g_sf τ 6 0)) hN (show x.toInt = _ by omega) (by omega)
    obtain ⟨⟨b', s'⟩, e2', hb', hKm'⟩ := sumCourse_m (c := x.toInt.toNat) (z := 0) hI'.six (Km.rf (σ := g_sf t 6 0)) hN (show x.toInt = _ by omega) (by omega)
    rw [e2, e2', Option.bind_some, Option.bind_some]
    exact SymR.yes (h6.keep hKm hKm') ((six0 hKm).trans (six0 hKm').symm) (hb.trans (crsum_tp (z := 0) hI.six hI'.six hN h6 (c := x.toInt.toNat) (by omega) ▸ hb'.symm))
  · rw [klass_no hk, asked0, asked0]
    exact SymR.no h
theorem sp_congr {t t' : Nat → Int32} : ∀ c, (∀ j, j < c → t j = t' j) → spF t c = spF t' c := by
  intro c
  induction c with
  | zero => intro _; rfl
  | succ c ih =>
    intro h
    unfold spF
    rw [ih (fun j hj => h j (by omega)), h c (by omega)]
/-- the reference's spread -/
theorem spread_m {τ : gSt} {N : Nat} (hI : Inv (g_sf τ 6 0)) (hN : 1000000000000000000000 < N) : Ok (fun (q : Int32 × gSt) => q.1 = (spF (fun c => tot2 N (g_sf τ 6 0) 1 (oC (g_sf τ 6 0) c) (ln (g_sf τ 6 0) c)) 5).1 - (spF (fun c => tot2 N (g_sf τ 6 0) 1 (oC (g_sf τ 6 0) c) (ln (g_sf τ 6 0) c)) 5).2 ∧ Km (g_sf τ 6 0) q.2) (f_X10_spread N τ) := by
  unfold f_X10_spread
  refine gLoop4_ok (fun m (v1 v2 v3 : Int32) s => ∃ c : Nat, c ≤ 5 ∧ (m : Int) = 5 - c ∧ v3.toInt = c ∧ Km (g_sf τ 6 0) s ∧ (v2, v1) = spF (fun c => tot2 N (g_sf τ 6 0) 1 (oC (g_sf τ 6 0) c) (ln (g_sf τ 6 0) c)) c) ?_ N 5 (-1) (-1) 0 _ (by omega) ⟨0, by omega, by omega, rfl, Km.rf, rfl⟩
  intro m v1 v2 v3 s self ⟨c, hc, hm, h3, hK, hp⟩ ih
  by_cases c1 : 5 ≤ v3
  · refine okt c1 (Ok.some ⟨?_, hK⟩)
    rw [tle, tl5, h3] at c1
    rw [show 5 = c by omega, ← hp]
  · refine okf c1 ?_
    rw [tle, tl5, h3] at c1
    have e1 := inc1 (v := v3) (n := 5) (by omega) (by omega)
    have hge := sp_ge (t := fun c => tot2 N (g_sf τ 6 0) 1 (oC (g_sf τ 6 0) c) (ln (g_sf τ 6 0) c)) c
    rw [← hp] at hge
    refine (sumCourse_m hI hK hN h3 (by omega)).bind (fun q hq => okz (ok0 ?_))
    obtain ⟨t, s'⟩ := q
    obtain ⟨ht, hK'⟩ := hq
    dsimp only at ht hK' ⊢
    have go : ∀ w1 w2, (w2, w1) = spF (fun c => tot2 N (g_sf τ 6 0) 1 (oC (g_sf τ 6 0) c) (ln (g_sf τ 6 0) c)) (c + 1) → Ok (fun (q : Int32 × gSt) => q.1 = (spF (fun c => tot2 N (g_sf τ 6 0) 1 (oC (g_sf τ 6 0) c) (ln (g_sf τ 6 0) c)) 5).1 - (spF (fun c => tot2 N (g_sf τ 6 0) 1 (oC (g_sf τ 6 0) c) (ln (g_sf τ 6 0) c)) 5).2 ∧ Km (g_sf τ 6 0) q.2) (self w1 w2 (v3 + 1) s') := fun w1 w2 h => ih (m - 1) w1 w2 (v3 + 1) s' (by omega) ⟨c + 1, by omega, by omega, by omega, hK', h⟩
    have hn : spF (fun c => tot2 N (g_sf τ 6 0) 1 (oC (g_sf τ 6 0) c) (ln (g_sf τ 6 0) c)) (c + 1) = (if t = -1 then (v2, v1) else (jmax v2 t, if v1 = -1 then t else jmin v1 t)) := by
      rw [ht]
      show (if _ = -1 then _ else _) = _
      rw [← hp]
    have big : ∀ w1, (t = -1 → w1 = v1) → (t ≠ -1 → w1 = (if v1 = -1 then t else jmin v1 t)) → Ok (fun (q : Int32 × gSt) => q.1 = (spF (fun c => tot2 N (g_sf τ 6 0) 1 (oC (g_sf τ 6 0) c) (ln (g_sf τ 6 0) c)) 5).1 - (spF (fun c => tot2 N (g_sf τ 6 0) 1 (oC (g_sf τ 6 0) c) (ln (g_sf τ 6 0) c)) 5).2 ∧ Km (g_sf τ 6 0) q.2) (gJoin1 (fun (w0_60 : Int32) =>
            self w1 w0_60 (v3 + 1) s') (fun j60 =>
          if t ≤ v2 then
            j60 v2
          else
            j60 t)) := by
      intro w1 g1 g2
      refine okz ?_
      by_cases c2 : t = -1
      · refine okt (by rw [tle, c2, tlm1]; exact hge) (go w1 v2 ?_)
        rw [hn, if_pos c2, g1 c2]
      · by_cases c3 : t ≤ v2
        · refine okt c3 (go w1 v2 ?_)
          rw [hn, if_neg c2, g2 c2, jmax_l c3]
        · refine okf c3 (go w1 t ?_)
          rw [hn, if_neg c2, g2 c2, jmax_r c3]
    by_cases c2 : t = -1
    · exact okt c2 (big v1 (fun _ => rfl) (fun e => absurd c2 e))
    · refine okf c2 (ok0 ?_)
      by_cases c3 : v1 = -1
      · exact okt c3 (big t (fun e => absurd e c2) (fun _ => (if_pos c3).symm))
      · refine okf c3 ?_
        by_cases c4 : v1 ≤ t
        · refine okt c4 (big v1 (fun e => absurd e c2) (fun _ => ?_))
          rw [if_neg c3]
          unfold jmin
          rw [if_neg (by rw [tlt]; rw [tle] at c4; omega)]
        · refine okf c4 (big t (fun e => absurd e c2) (fun _ => ?_))
          rw [if_neg c3]
          unfold jmin
          rw [if_pos (by rw [tlt]; rw [tle] at c4; omega)]
theorem sym_spread {τ t : gSt} {N : Nat} (hI : Inv τ) (hI' : Inv t) (hN : 1000000000000000000000 < N) (h : Tr τ t) : SymR (f_X10_spread N τ) (f_X10_spread N t) := by
  refine SymR.of h (spread_m hI.six hN) (spread_m hI'.six hN) ?_
  rintro p q ⟨p1, p2⟩ ⟨q1, q2⟩
  have e := sp_congr (t := fun c => tot2 N (g_sf t 6 0) 1 (oC (g_sf t 6 0) c) (ln (g_sf t 6 0) c)) (t' := fun c => tot2 N (g_sf τ 6 0) 1 (oC (g_sf τ 6 0) c) (ln (g_sf τ 6 0) c)) 5 (fun j hj => crsum_tp (z := 1) hI.six hI'.six hN (h.six (x := 0) (y := 0)) hj)
  rw [e] at q1
  exact ⟨p1.trans q1.symm, p2, q2⟩
