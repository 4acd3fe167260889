/-! ===== pure: sums over a course; courseClimb, courseCost, spread ===== -/
def sumR (c k : Nat → Int32) : Nat → Int32
  | 0 => 0
  | m + 1 => if sumR c k m = -1 then -1 else if c m = -1 then -1 else sumR c k m + k m
def totR (c k : Nat → Int32) (L : Nat) : Int32 := if L < 2 then -1 else sumR c k (L - 1)
/-- what is known of legs -/
def LG (c k : Nat → Int32) (M : Nat) : Prop := ∀ m, m < M → c m = -1 ∨ (0 ≤ (k m).toInt ∧ (k m).toInt ≤ 152640)
theorem sumR_ok {c k : Nat → Int32} {M : Nat} (h : LG c k M) : ∀ m, m ≤ M → m ≤ 6 → sumR c k m = -1 ∨ (0 ≤ (sumR c k m).toInt ∧ (sumR c k m).toInt ≤ 152640 * m) := by
  intro m
  induction m with
  | zero => intro _ _; exact Or.inr ⟨Int.le_refl 0, Int.le_refl 0⟩
  | succ m ih =>
    intro h1 h2
    have a := ih (by omega) (by omega)
    have b := h m (by omega)
    show (if sumR c k m = -1 then -1 else if c m = -1 then -1 else sumR c k m + k m) = -1 ∨ (0 ≤ (if sumR c k m = -1 then -1 else if c m = -1 then -1 else sumR c k m + k m : Int32).toInt ∧ (if sumR c k m = -1 then -1 else if c m = -1 then -1 else sumR c k m + k m : Int32).toInt ≤ 152640 * ((m + 1 : Nat) : Int))
    by_cases c1 : sumR c k m = -1
    · rw [if_pos c1]; exact Or.inl rfl
    rw [if_neg c1]
    by_cases c2 : c m = -1
    · rw [if_pos c2]; exact Or.inl rfl
    rw [if_neg c2]
    have a' := a.resolve_left c1
    have b' := b.resolve_left c2
    rw [tadd (by omega)]
    exact Or.inr (by omega)
theorem sumR_stop {c k : Nat → Int32} {m : Nat} (h : sumR c k m = -1) : ∀ d, sumR c k (m + d) = -1 := by
  intro d
  induction d with
  | zero => exact h
  | succ d ih => exact if_pos ih
theorem sumR_next {c k : Nat → Int32} {m : Nat} (h : sumR c k m ≠ -1) (h2 : c m ≠ -1) : sumR c k (m + 1) = sumR c k m + k m := (if_neg h).trans (if_neg h2)
theorem sumR_none {c k : Nat → Int32} {m : Nat} (h2 : c m = -1) : sumR c k (m + 1) = -1 := by
  by_cases h : sumR c k m = -1
  · exact if_pos h
  · exact (if_neg h).trans (if_pos h2)
theorem sumR_both {c k k' : Nat → Int32} {M : Nat} (h : LG c k M) (h' : LG c k' M) : ∀ m, m ≤ M → m ≤ 6 → (sumR c k m = -1 ↔ sumR c k' m = -1) := by
  intro m
  induction m with
  | zero => intro _ _; exact Iff.rfl
  | succ m ih =>
    intro h1 h2
    have a := ih (by omega) (by omega)
    have o1 := sumR_ok h (m + 1) (by omega) h2
    have o2 := sumR_ok h' (m + 1) (by omega) h2
    have p1 := sumR_ok h m (by omega) (by omega)
    have p2 := sumR_ok h' m (by omega) (by omega)
    by_cases c1 : sumR c k m = -1
    · exact ⟨fun _ => sumR_stop (a.mp c1) 1, fun _ => sumR_stop c1 1⟩
    · have c1' : ¬ sumR c k' m = -1 := fun e => c1 (a.mpr e)
      by_cases c2 : c m = -1
      · exact ⟨fun _ => sumR_none c2, fun _ => sumR_none c2⟩
      · have b := (h m (by omega)).resolve_left c2
        have b' := (h' m (by omega)).resolve_left c2
        have q := p1.resolve_left c1
        have q' := p2.resolve_left c1'
        rw [sumR_next c1 c2, sumR_next c1' c2]
        constructor
        · intro e
          rw [teq, tadd (by omega), tlm1] at e
          omega
        · intro e
          rw [teq, tadd (by omega), tlm1] at e
          omega
/-- the legs of a row of controls -/
def lgC (N : Nat) (τ : gSt) (o : Nat → Int32) (k : Nat) : Int32 := dC N τ 0 (cl τ (o k)) (cl τ (o (k + 1)))
def lgK (N : Nat) (τ : gSt) (o : Nat → Int32) (k : Nat) : Int32 := dK N τ 0 (cl τ (o k)) (cl τ (o (k + 1)))
theorem lg_C {τ : gSt} {N L : Nat} {o : Nat → Int32} (hI : Inv τ) (hN : 1000000000000000000000 < N) (ho : ∀ j, j < L → isC τ (o j)) : LG (lgC N τ o) (lgC N τ o) (L - 1) := fun m hm => by
  obtain ⟨a1, a2, a3⟩ := cl_in hI (ho m (by omega))
  obtain ⟨b1, b2, b3⟩ := cl_in hI (ho (m + 1) (by omega))
  rcases dC_ok (z := 0) hI.1 hN a2 b2 with h | h
  · exact Or.inl h.1
  · exact Or.inr h.1
theorem lg_K {τ : gSt} {N L : Nat} {o : Nat → Int32} (hI : Inv τ) (hN : 1000000000000000000000 < N) (ho : ∀ j, j < L → isC τ (o j)) : LG (lgC N τ o) (lgK N τ o) (L - 1) := fun m hm => by
  obtain ⟨a1, a2, a3⟩ := cl_in hI (ho m (by omega))
  obtain ⟨b1, b2, b3⟩ := cl_in hI (ho (m + 1) (by omega))
  rcases dC_ok (z := 0) hI.1 hN a2 b2 with h | h
  · exact Or.inl h.1
  · have h2 := h.2
    exact Or.inr ⟨h2.1, by show (dK N τ 0 (cl τ (o m)) (cl τ (o (m + 1)))).toInt ≤ 152640; omega⟩
/-- the sums: z tells whether of climbs -/
def tot2 (N : Nat) (τ : gSt) (z : Int32) (o : Nat → Int32) (L : Nat) : Int32 := totR (lgC N τ o) (if z = 0 then lgC N τ o else lgK N τ o) L
theorem lg_z {τ : gSt} {N L : Nat} {z : Int32} {o : Nat → Int32} (hI : Inv τ) (hN : 1000000000000000000000 < N) (ho : ∀ j, j < L → isC τ (o j)) : LG (lgC N τ o) (if z = 0 then lgC N τ o else lgK N τ o) (L - 1) := by
  by_cases c : z = 0
  · rw [if_pos c]; exact lg_C hI hN ho
  · rw [if_neg c]; exact lg_K hI hN ho
theorem sumOf_m {τ s : gSt} {N L : Nat} {x1 z : Int32} {o : Nat → Int32} (hI : Inv τ) (hK : Km τ s) (hN : 1000000000000000000000 < N) (hx : x1.toInt = L) (hL : L ≤ 6) (ho : ∀ j, j < L → s.1 18 j = o j ∧ isC τ (o j)) : Ok (fun q => q.1 = tot2 N τ z o L ∧ Km τ q.2 ∧ Kr s q.2) (f_X10_sumOf N s x1 z) := by
  have hG := lg_z (z := z) hI hN (fun j hj => (ho j hj).2)
  unfold f_X10_sumOf
  refine okz ?_
  by_cases c : 2 ≤ x1
  · refine okt c ?_
    rw [tle, tl2, hx] at c
    refine gLoop3_ok (fun m (v3 v4 : Int32) s' => ∃ k : Nat, k ≤ L - 1 ∧ (m : Int) = 6 - k ∧ v4.toInt = k ∧ v3 = sumR (lgC N τ o) (if z = 0 then lgC N τ o else lgK N τ o) k ∧ Km τ s' ∧ Kr s s') ?_ N 6 0 0 s (by omega) ⟨0, by omega, by omega, rfl, rfl, hK, Kr.rf⟩
    intro m v3 v4 s' self ⟨k, hk, hm, h4, h3, hK', hKr⟩ ih
    have e1 := inc1 (v := v4) (n := 6) (by omega) (by omega)
    have fin : v3 = sumR (lgC N τ o) (if z = 0 then lgC N τ o else lgK N τ o) (L - 1) → Ok (fun q => q.1 = tot2 N τ z o L ∧ Km τ q.2 ∧ Kr s q.2) (some (v3, s')) := fun h => Ok.some ⟨by
      unfold tot2 totR
      rw [if_neg (by omega)]
      exact h, hK', hKr⟩
    by_cases c1 : x1 ≤ v4 + 1
    · refine okt c1 (fin ?_)
      rw [tle, hx, e1, h4] at c1
      rw [h3, show k = L - 1 by omega]
    · refine okf c1 ?_
      rw [tle, hx, e1, h4] at c1
      by_cases c2 : v3 = -1
      · refine okt c2 (fin ?_)
        have := sumR_stop (c := lgC N τ o) (k := if z = 0 then lgC N τ o else lgK N τ o) (m := k) (h3.symm.trans c2) (L - 1 - k)
        rw [show k + (L - 1 - k) = L - 1 by omega] at this
        rw [this]
        exact c2
      · refine okf c2 (okf (gd (by omega) (by omega)) (okf (gd (by omega) (by omega)) ?_))
        have o18 : ∀ j, j < L → ∀ v : Int32, v.toInt = j → g_ga s' 18 v = o j := fun j hj v hv => by
          rw [ga_at hv, hKr.1 18 (by decide) (by decide)]
          exact (ho j hj).1
        rw [o18 k (by omega) v4 h4, o18 (k + 1) (by omega) (v4 + 1) (by omega)]
        have i1 := (ho k (by omega)).2
        have i2 := (ho (k + 1) (by omega)).2
        obtain ⟨b1, b2, b3⟩ := cl_in hI i2
        refine (costOf_m hI hK' hN i1 i2).bind (fun q hq => okz ?_)
        obtain ⟨b, t⟩ := q
        obtain ⟨hb, hKt, hKrt, hv⟩ := hq
        dsimp only at hb hKt hKrt hv ⊢
        have hb' : b = lgC N τ o k := hb
        have go : ∀ w, w = sumR (lgC N τ o) (if z = 0 then lgC N τ o else lgK N τ o) (k + 1) → Ok (fun q => q.1 = tot2 N τ z o L ∧ Km τ q.2 ∧ Kr s q.2) (self w (v4 + 1) t) := fun w hw => ih (m - 1) w (v4 + 1) t (by omega) ⟨k + 1, by omega, by omega, by omega, hw, hKt, hKr.trans hKrt⟩
        by_cases c3 : b = -1
        · exact okt c3 (go (-1) (sumR_none (hb'.symm.trans c3)).symm)
        · refine okf c3 (okz ?_)
          have hn := sumR_next (c := lgC N τ o) (k := if z = 0 then lgC N τ o else lgK N τ o) (m := k) (by rw [← h3]; exact c2) (by rw [← hb']; exact c3)
          by_cases c4 : z = 0
          · refine okt c4 (go (v3 + b) ?_)
            rw [hn, h3, if_pos c4, hb']
          · have t18 : g_ga t 18 (v4 + 1) = o (k + 1) := by
              rw [ga_at (n := k + 1) (by omega), hKrt.1 18 (by decide) (by decide), hKr.1 18 (by decide) (by decide)]
              exact (ho (k + 1) (by omega)).1
            have t2 : g_ga t 2 (o (k + 1)) = τ.1 2 (o (k + 1)).toInt.toNat := by unfold g_ga; rw [tcl, hKt.1 2 (by decide)]
            have t15 : g_ga t 15 (τ.1 2 (o (k + 1)).toInt.toNat) = t.1 15 (cl τ (o (k + 1))) := ga_at b3
            rw [t18, t2, t15]
            refine okf c4 (okf (gd (by omega) (by omega)) (okf (ctl12 hI i2) (okf (gd (by omega) (by omega)) (go _ ?_))))
            rw [hn, h3, if_neg c4]
            have hv2 := hv _ b2
            unfold rv rk at hv2
            have nf : ¬ t.1 14 (cl τ (o (k + 1))) = 1000000000 := fun e => by
              rw [if_pos e, if_pos e] at hv2
              exact c3 (hb.trans hv2.1.symm)
            rw [if_neg nf, if_neg nf] at hv2
            rw [hv2.2]
            rfl
  · refine okf c ?_
    rw [tle, tl2, hx] at c
    refine gLoop3_ok (fun m (v3 v4 : Int32) s' => v3 = -1 ∧ v4.toInt = 0 ∧ s' = s) ?_ N 0 (-1) 0 s (by omega) ⟨rfl, rfl, rfl⟩
    intro m v3 v4 s' self ⟨h3, h4, hs⟩ ih
    have e1 := inc1 (v := v4) (n := 6) (by omega) (by omega)
    refine okt (by rw [tle, hx, e1]; omega) (Ok.some ⟨?_, by rw [hs]; exact hK, by rw [hs]; exact Kr.rf⟩)
    unfold tot2 totR
    rw [if_pos (by omega)]
    exact h3
/-- the course of a class -/
def oC (τ : gSt) (c j : Nat) : Int32 := τ.1 4 (6 * c + j)
def ln (τ : gSt) (c : Nat) : Nat := (τ.1 5 c).toInt.toNat
theorem crs_in {τ : gSt} (hI : Inv τ) {c : Nat} (hc : c < 5) : (τ.1 5 c).toInt = ln τ c ∧ ln τ c ≤ 6 ∧ ∀ j, j < ln τ c → isC τ (oC τ c j) := by
  obtain ⟨a, b⟩ := hI.2.2.1.1 c
  unfold ln
  exact ⟨by omega, by omega, fun j hj => hI.2.2.1.2.1 c j hc (by omega)⟩
theorem sumCourse_m {τ s0 : gSt} {N c : Nat} {x1 z : Int32} (hI : Inv τ) (hK0 : Km τ s0) (hN : 1000000000000000000000 < N) (hx : x1.toInt = c) (hc : c < 5) : Ok (fun q => q.1 = tot2 N τ z (oC τ c) (ln τ c) ∧ Km τ q.2) (f_X10_sumOfCourse N s0 x1 z) := by
  obtain ⟨l1, l2, l3⟩ := crs_in hI hc
  have hk : isK x1 := ⟨by omega, by omega⟩
  have gx := gd (x := x1) (n := 5) (by omega) (by omega)
  unfold f_X10_sumOfCourse
  refine gLoop2_ok (fun m (v : Int32) s => ∃ j : Nat, j ≤ ln τ c ∧ (m : Int) = 6 - j ∧ v.toInt = j ∧ Km τ s ∧ ∀ i, i < j → s.1 18 i = oC τ c i) ?_ N 6 0 s0 (by omega) ⟨0, by omega, by omega, rfl, hK0, fun i hi => by omega⟩
  intro m v s self ⟨j, hj, hm, hv, hK, h18⟩ ih
  have e5 : g_ga s 5 x1 = τ.1 5 c := by rw [ga_at hx, hK.1 5 (by decide)]
  rw [e5]
  refine okf gx ?_
  by_cases c1 : τ.1 5 c ≤ v
  · refine okt c1 (okf gx ?_)
    rw [tle, l1, hv] at c1
    refine (sumOf_m (o := oC τ c) hI hK hN l1 l2 (fun i hi => ⟨h18 i (by omega), l3 i hi⟩)).bind (fun q hq => Ok.some ⟨hq.1, hq.2.1⟩)
  · refine okf c1 ?_
    rw [tle, l1, hv] at c1
    have ee := ent_in (j := v) hk (by omega) (by omega)
    have e4 : g_ga s 4 (6 * x1 + v) = oC τ c j := by rw [ga_at (n := 6 * c + j) (by rw [ee]; omega), hK.1 4 (by decide)]; rfl
    have e1 := inc1 (v := v) (n := 6) (by omega) (by omega)
    rw [e4]
    refine okf (gd (by omega) (by omega)) (okf (gd (by omega) (by omega)) (ih (m - 1) (v + 1) _ (by omega) ⟨j + 1, by omega, by omega, by omega, hK.pa (by decide), fun i hi => ?_⟩))
    rw [pa_1, if_pos rfl, upd_at]
    by_cases e : i = j
    · rw [if_pos (by omega), e]
    · rw [if_neg (by omega)]
      exact h18 i (by omega)
/-- the class measures a course -/
theorem course_c {σ τ : gSt} {N c : Nat} {x1 : Int32} (hR : Rel σ τ) (hN : 1000000000000000000000 < N) (hx : x1.toInt = c) (hc : c < 5) : Ok (fun s => Kc σ s ∧ s.2 8 = tot2 N τ 0 (oC τ c) (ln τ c) ∧ s.2 9 = tot2 N τ 1 (oC τ c) (ln τ c)) (f_X4_measure N σ x1) := by
  have hI := hR.2
  obtain ⟨l1, l2, l3⟩ := crs_in hI hc
  have hk : isK x1 := ⟨by omega, by omega⟩
  have hG0 := lg_C (N := N) hI hN l3
  have hG1 := lg_K (N := N) hI hN l3
  have hx5 : x1.toInt.toNat = c := by omega
  have leg : ∀ s, Rel s τ → (f_X2_legs s x1).toInt = (ln τ c - 1 : Nat) := fun s h => by
    unfold f_X2_legs
    rw [tmax, clen h.1 hk, hx5, tsub (by rw [tl1]; omega), tl0, tl1]
    omega
  have cat : ∀ s, Rel s τ → ∀ (v : Int32) (j : Nat), v.toInt = j → j < ln τ c → f_X2_controlAt s x1 v = oC τ c j := fun s h v j hv hj => by
    rw [cat_in h hk (by omega) (by rw [hx5]; omega), ga_at (n := 6 * c + j) (by rw [ent_in hk (by omega) (by omega)]; omega)]
    rfl
  have t0 : tot2 N τ 0 (oC τ c) (ln τ c) = totR (lgC N τ (oC τ c)) (lgC N τ (oC τ c)) (ln τ c) := rfl
  have t1 : tot2 N τ 1 (oC τ c) (ln τ c) = totR (lgC N τ (oC τ c)) (lgK N τ (oC τ c)) (ln τ c) := rfl
  rw [t0, t1]
  unfold f_X4_measure
  refine okz ?_
  by_cases c0 : f_X2_legs σ x1 ≤ 0
  · refine okt c0 ?_
    rw [tle, leg σ hR, tl0] at c0
    refine gLoop2_ok (fun m (v : Int32) s => v.toInt = 0 ∧ Kc σ s ∧ s.2 8 = -1 ∧ s.2 9 = -1) ?_ N 0 0 _ (by omega) ⟨rfl, (Kc.rf.sf (by unfold cf; decide)).sf (by unfold cf; decide), by rw [sf_2, if_neg (by decide), sf_2, if_pos rfl], by rw [sf_2, if_pos rfl, sf_2, if_pos rfl]⟩
    intro m v s self ⟨hv, hK, h8, h9⟩ ih
    refine okt (by rw [tle, leg s (hR.keep hK Km.rf)]; omega) (Ok.some ⟨hK, ?_, ?_⟩)
    · unfold totR
      rw [if_pos (by omega)]
      exact h8
    · unfold totR
      rw [if_pos (by omega)]
      exact h9
  · refine okf c0 ?_
    rw [tle, leg σ hR, tl0] at c0
    refine gLoop2_ok (fun m (v : Int32) s => ∃ k : Nat, k ≤ ln τ c - 1 ∧ (m : Int) = 6 - k ∧ v.toInt = k ∧ Kc σ s ∧ s.2 8 = sumR (lgC N τ (oC τ c)) (lgC N τ (oC τ c)) k ∧ s.2 9 = sumR (lgC N τ (oC τ c)) (lgK N τ (oC τ c)) k) ?_ N 6 0 _ (by omega) ⟨0, by omega, by omega, rfl, (Kc.rf.sf (by unfold cf; decide)).sf (by unfold cf; decide), by rw [sf_2, if_neg (by decide), sf_2, if_pos rfl]; rfl, by rw [sf_2, if_pos rfl, sf_2, if_pos rfl]; rfl⟩
    intro m v s self ⟨k, hkL, hm, hv, hK, h8, h9⟩ ih
    have hRs := hR.keep hK Km.rf
    have fin : s.2 8 = sumR (lgC N τ (oC τ c)) (lgC N τ (oC τ c)) (ln τ c - 1) → s.2 9 = sumR (lgC N τ (oC τ c)) (lgK N τ (oC τ c)) (ln τ c - 1) → Ok (fun s => Kc σ s ∧ s.2 8 = totR (lgC N τ (oC τ c)) (lgC N τ (oC τ c)) (ln τ c) ∧ s.2 9 = totR (lgC N τ (oC τ c)) (lgK N τ (oC τ c)) (ln τ c)) (some s) := fun g1 g2 => Ok.some ⟨hK, by
      unfold totR
      rw [if_neg (by omega)]
      exact g1, by
      unfold totR
      rw [if_neg (by omega)]
      exact g2⟩
    by_cases c1 : f_X2_legs s x1 ≤ v
    · refine okt c1 (fin ?_ ?_)
      · rw [tle, leg s hRs, hv] at c1
        rw [h8, show k = ln τ c - 1 by omega]
      · rw [tle, leg s hRs, hv] at c1
        rw [h9, show k = ln τ c - 1 by omega]
    · refine okf c1 ?_
      rw [tle, leg s hRs, hv] at c1
      by_cases c2 : s.2 8 = -1
      · have z8 : sumR (lgC N τ (oC τ c)) (lgC N τ (oC τ c)) k = -1 := h8.symm.trans c2
        have z9 : sumR (lgC N τ (oC τ c)) (lgK N τ (oC τ c)) k = -1 := (sumR_both hG0 hG1 k (by omega) (by omega)).mp z8
        have s8 := sumR_stop z8 (ln τ c - 1 - k)
        have s9 := sumR_stop z9 (ln τ c - 1 - k)
        rw [show k + (ln τ c - 1 - k) = ln τ c - 1 by omega] at s8 s9
        exact okt c2 (fin (c2.trans s8.symm) ((h9.trans z9).trans s9.symm))
      · refine okf c2 ?_
        have n8 : sumR (lgC N τ (oC τ c)) (lgC N τ (oC τ c)) k ≠ -1 := by rw [← h8]; exact c2
        have n9 : sumR (lgC N τ (oC τ c)) (lgK N τ (oC τ c)) k ≠ -1 := fun e => n8 ((sumR_both hG0 hG1 k (by omega) (by omega)).mpr e)
        have i1 := l3 k (by omega)
        have i2 := l3 (k + 1) (by omega)
        obtain ⟨a1, a2, a3⟩ := cl_in hI i1
        obtain ⟨b1, b2, b3⟩ := cl_in hI i2
        have e1 := inc1 (v := v) (n := 6) (by omega) (by omega)
        rw [cat s hRs v k hv (by omega), cl_c hRs i1]
        refine (find_c (z := 0) hRs hN a3 a1).bind (fun s' hs' => ?_)
        obtain ⟨hKs, hval⟩ := hs'
        have hRs' := hRs.keep hKs.kc Km.rf
        have q5 : f_X6_costTo s' (τ.1 2 (oC τ c (k + 1)).toInt.toNat) = lgC N τ (oC τ c) k := by
          unfold f_X6_costTo
          rw [gget_in (by omega) (by rw [len144c.1]; omega)]
          exact (hval _ b2).1
        have q6 : ∀ y, f_X6_climbTo (g_sf s' 8 y) (τ.1 2 (oC τ c (k + 1)).toInt.toNat) = lgK N τ (oC τ c) k := fun y => by
          unfold f_X6_climbTo
          rw [gget_in (by omega) (by rw [len144c.2.1]; omega)]
          exact (hval _ b2).2
        have f8 : s'.2 8 = s.2 8 := hKs.2 8 (by decide)
        have f9 : ∀ y, (g_sf s' 8 y).2 9 = s.2 9 := fun y => hKs.2 9 (by decide)
        rw [cat s' hRs' (v + 1) (k + 1) (by omega) (by omega), cl_c hRs' i2]
        simp only [q5, q6, f8, f9]
        have go : ∀ w1 w2, w1 = sumR (lgC N τ (oC τ c)) (lgC N τ (oC τ c)) (k + 1) → w2 = sumR (lgC N τ (oC τ c)) (lgK N τ (oC τ c)) (k + 1) → Ok (fun s => Kc σ s ∧ s.2 8 = totR (lgC N τ (oC τ c)) (lgC N τ (oC τ c)) (ln τ c) ∧ s.2 9 = totR (lgC N τ (oC τ c)) (lgK N τ (oC τ c)) (ln τ c)) (self (v + 1) (g_sf (g_sf s' 8 w1) 9 w2)) := fun w1 w2 hw1 hw2 => ih (m - 1) (v + 1) _ (by omega) ⟨k + 1, by omega, by omega, by omega, ((hK.trans hKs.kc).sf (by unfold cf; decide)).sf (by unfold cf; decide), by rw [sf_2, if_neg (by decide), sf_2, if_pos rfl]; exact hw1, by rw [sf_2, if_pos rfl]; exact hw2⟩
        refine okz ?_
        by_cases c3 : lgC N τ (oC τ c) k = -1
        · exact okt c3 (okz (okt rfl (okz (okt rfl (go _ _ (sumR_none c3).symm (sumR_none c3).symm)))))
        · exact okf c3 (okz (okf one_ne (okz (okf one_ne (go _ _ (by rw [sumR_next n8 c3, h8]) (by rw [sumR_next n9 c3, h9]))))))
theorem owe_courseClimb {N : Nat} (hN : 1000000000000000000000 < N) : Owe_courseClimb N := by
  intro σ τ x hR
  have hI := hR.2
  unfold f_X9_courseClimb f_X10_courseClimb
  by_cases h : isK x
  · have h1 := h.1
    have h2 := h.2
    rw [needK_yes h, if_pos rfl, klass_yes h, asked1]
    have hR6 := hR.six (x := 0)
    obtain ⟨s, e1, hK, -, h9⟩ := course_c (c := x.toInt.toNat) hR6 hN (show x.toInt = _ by omega) (by omega)
    obtain ⟨⟨b, t⟩, e2, hb, hKm⟩ := sumCourse_m (c := x.toInt.toNat) (z := 1) hR6.2 Km.rf hN (show x.toInt = _ by omega) (by omega)
    rw [e1, Option.bind_some]
    refine (congrArg _ (if_neg one_ne)).mpr ?_
    rw [e2, Option.bind_some]
    exact Agr.yes (hR6.keep hK hKm) (Or.inl rfl) (six0 hKm) (hb.trans h9.symm)
  · rw [needK_no h, if_neg onen, klass_no h, asked0]
    exact Agr.no hR (by decide) (Or.inr rfl) rfl
theorem owe_courseCost {N : Nat} (hN : 1000000000000000000000 < N) : Owe_courseCost N := by
  intro σ τ x hR
  have hI := hR.2
  unfold f_X9_courseCost f_X10_courseCost
  by_cases h : isK x
  · have h1 := h.1
    have h2 := h.2
    rw [needK_yes h, if_pos rfl, klass_yes h, asked1]
    have hR6 := hR.six (x := 0)
    obtain ⟨s, e1, hK, h8, -⟩ := course_c (c := x.toInt.toNat) hR6 hN (show x.toInt = _ by omega) (by omega)
    obtain ⟨⟨b, t⟩, e2, hb, hKm⟩ := sumCourse_m (c := x.toInt.toNat) (z := 0) hR6.2 Km.rf hN (show x.toInt = _ by omega) (by omega)
    rw [e1, Option.bind_some]
    refine (congrArg _ (if_neg one_ne)).mpr ?_
    rw [e2, Option.bind_some]
    exact Agr.yes (hR6.keep hK hKm) (Or.inl rfl) (six0 hKm) (hb.trans h8.symm)
  · rw [needK_no h, if_neg onen, klass_no h, asked0]
    exact Agr.no hR (by decide) (Or.inr rfl) rfl
/-- the greatest and the least climb of the first classes -/
def spF (t : Nat → Int32) : Nat → Int32 × Int32
  | 0 => (-1, -1)
  | c + 1 => if t c = -1 then spF t c else (jmax (spF t c).1 (t c), if (spF t c).2 = -1 then t c else jmin (spF t c).2 (t c))
theorem tot2_ok {τ : gSt} {N L : Nat} {z : Int32} {o : Nat → Int32} (hI : Inv τ) (hN : 1000000000000000000000 < N) (hL : L ≤ 6) (ho : ∀ j, j < L → isC τ (o j)) : tot2 N τ z o L = -1 ∨ (0 ≤ (tot2 N τ z o L).toInt ∧ (tot2 N τ z o L).toInt ≤ 1000000) := by
  unfold tot2 totR
  by_cases c : L < 2
  · rw [if_pos c]; exact Or.inl rfl
  · rw [if_neg c]
    rcases sumR_ok (lg_z (z := z) hI hN ho) (L - 1) (Nat.le_refl _) (by omega) with h | h
    · exact Or.inl h
    · exact Or.inr (by omega)
theorem sp_ge {t : Nat → Int32} : ∀ c, -1 ≤ (spF t c).1.toInt := by
  intro c
  induction c with
  | zero => exact Int.le_refl _
  | succ c ih =>
    show -1 ≤ (if t c = -1 then spF t c else (jmax (spF t c).1 (t c), if (spF t c).2 = -1 then t c else jmin (spF t c).2 (t c))).1.toInt
    by_cases h : t c = -1
    · rw [if_pos h]; exact ih
    · rw [if_neg h]
      show -1 ≤ (jmax (spF t c).1 (t c)).toInt
      rw [tmax]
      omega
theorem jmax_l {x y : Int32} (h : y ≤ x) : jmax x y = x := by
  unfold jmax
  rw [if_neg (by rw [tlt]; rw [tle] at h; omega)]
theorem jmax_r {x y : Int32} (h : ¬ y ≤ x) : jmax x y = y := by
  unfold jmax
  rw [if_pos (by rw [tlt]; rw [tle] at h; omega)]
theorem owe_spread {N : Nat} (hN : 1000000000000000000000 < N) : Owe_spread N := by
  intro σ τ hR
  have hR6 := hR.six (x := 0)
  have hI := hR6.2
  have C : Ok (fun (q : Int32 × gSt) => q.1 = (spF (fun c => tot2 N (g_sf τ 6 0) 1 (oC (g_sf τ 6 0) c) (ln (g_sf τ 6 0) c)) 5).1 - (spF (fun c => tot2 N (g_sf τ 6 0) 1 (oC (g_sf τ 6 0) c) (ln (g_sf τ 6 0) c)) 5).2 ∧ Kc σ q.2) (f_X4_differenceOfClimbs N σ) := by
    unfold f_X4_differenceOfClimbs
    refine gLoop4_ok (fun m (v1 v2 v3 : Int32) s => ∃ c : Nat, c ≤ 5 ∧ (m : Int) = 5 - c ∧ v3.toInt = c ∧ Kc σ s ∧ (v1, v2) = spF (fun c => tot2 N (g_sf τ 6 0) 1 (oC (g_sf τ 6 0) c) (ln (g_sf τ 6 0) c)) c) ?_ N 5 (-1) (-1) 0 σ (by omega) ⟨0, by omega, by omega, rfl, Kc.rf, rfl⟩
    intro m v1 v2 v3 s self ⟨c, hc, hm, h3, hK, hp⟩ ih
    by_cases c1 : 5 ≤ v3
    · refine okt c1 (Ok.some ⟨?_, hK⟩)
      rw [tle, tl5, h3] at c1
      rw [show 5 = c by omega, ← hp]
    · refine okf c1 ?_
      rw [tle, tl5, h3] at c1
      have e1 := inc1 (v := v3) (n := 5) (by omega) (by omega)
      refine (course_c (hR6.keep hK Km.rf) hN h3 (by omega)).bind (fun s' hs' => ok2 ?_)
      obtain ⟨hK', -, h9⟩ := hs'
      have go : ∀ w1 w2, (w1, w2) = spF (fun c => tot2 N (g_sf τ 6 0) 1 (oC (g_sf τ 6 0) c) (ln (g_sf τ 6 0) c)) (c + 1) → Ok (fun (q : Int32 × gSt) => q.1 = (spF (fun c => tot2 N (g_sf τ 6 0) 1 (oC (g_sf τ 6 0) c) (ln (g_sf τ 6 0) c)) 5).1 - (spF (fun c => tot2 N (g_sf τ 6 0) 1 (oC (g_sf τ 6 0) c) (ln (g_sf τ 6 0) c)) 5).2 ∧ Kc σ q.2) (self w1 w2 (v3 + 1) s') := fun w1 w2 h => ih (m - 1) w1 w2 (v3 + 1) s' (by omega) ⟨c + 1, by omega, by omega, by omega, hK.trans hK', h⟩
      have hn : spF (fun c => tot2 N (g_sf τ 6 0) 1 (oC (g_sf τ 6 0) c) (ln (g_sf τ 6 0) c)) (c + 1) = (if s'.2 9 = -1 then (v1, v2) else (jmax v1 (s'.2 9), if v2 = -1 then s'.2 9 else jmin v2 (s'.2 9))) := by
        rw [h9]
        show (if _ = -1 then _ else _) = _
        rw [← hp]
      by_cases c2 : s'.2 9 = -1
      · exact okt c2 (go v1 v2 (by rw [hn, if_pos c2]))
      · refine okf c2 (okz ?_)
        by_cases c3 : v2 = -1
        · exact okt c3 (go _ _ (by rw [hn, if_neg c2, if_pos c3]))
        · exact okf c3 (go _ _ (by rw [hn, if_neg c2, if_neg c3]))
  have M : Ok (fun (q : Int32 × gSt) => q.1 = (spF (fun c => tot2 N (g_sf τ 6 0) 1 (oC (g_sf τ 6 0) c) (ln (g_sf τ 6 0) c)) 5).1 - (spF (fun c => tot2 N (g_sf τ 6 0) 1 (oC (g_sf τ 6 0) c) (ln (g_sf τ 6 0) c)) 5).2 ∧ Km (g_sf τ 6 0) q.2) (f_X10_spread N τ) := by
    unfold f_X10_spread
    refine gLoop4_ok (fun m (v1 v2 v3 : Int32) s => ∃ c : Nat, c ≤ 5 ∧ (m : Int) = 5 - c ∧ v3.toInt = c ∧ Km (g_sf τ 6 0) s ∧ (v2, v1) = spF (fun c => tot2 N (g_sf τ 6 0) 1 (oC (g_sf τ 6 0) c) (ln (g_sf τ 6 0) c)) c) ?_ N 5 (-1) (-1) 0 _ (by omega) ⟨0, by omega, by omega, rfl, Km.rf, rfl⟩
    intro m v1 v2 v3 s self ⟨c, hc, hm, h3, hK, hp⟩ ih
    by_cases c1 : 5 ≤ v3
    · refine okt c1 (Ok.some ⟨?_, hK⟩)
      rw [tle, tl5, h3] at c1
      rw [show 5 = c by omega, ← hp]
    · refine okf c1 ?_
      rw [tle, tl5, h3] at c1
      have e1 := inc1 (v := v3) (n := 5) (by omega) (by omega)
      have hge := sp_ge (t := fun c => tot2 N (g_sf τ 6 0) 1 (oC (g_sf τ 6 0) c) (ln (g_sf τ 6 0) c)) c
      rw [← hp] at hge
      refine (sumCourse_m hI hK hN h3 (by omega)).bind (fun q hq => okz (ok0 ?_))
      obtain ⟨t, s'⟩ := q
      obtain ⟨ht, hK'⟩ := hq
      dsimp only at ht hK' ⊢
      have go : ∀ w1 w2, (w2, w1) = spF (fun c => tot2 N (g_sf τ 6 0) 1 (oC (g_sf τ 6 0) c) (ln (g_sf τ 6 0) c)) (c + 1) → Ok (fun (q : Int32 × gSt) => q.1 = (spF (fun c => tot2 N (g_sf τ 6 0) 1 (oC (g_sf τ 6 0) c) (ln (g_sf τ 6 0) c)) 5).1 - (spF (fun c => tot2 N (g_sf τ 6 0) 1 (oC (g_sf τ 6 0) c) (ln (g_sf τ 6 0) c)) 5).2 ∧ Km (g_sf τ 6 0) q.2) (self w1 w2 (v3 + 1) s') := fun w1 w2 h => ih (m - 1) w1 w2 (v3 + 1) s' (by omega) ⟨c + 1, by omega, by omega, by omega, hK', h⟩
      have hn : spF (fun c => tot2 N (g_sf τ 6 0) 1 (oC (g_sf τ 6 0) c) (ln (g_sf τ 6 0) c)) (c + 1) = (if t = -1 then (v2, v1) else (jmax v2 t, if v1 = -1 then t else jmin v1 t)) := by
        rw [ht]
        show (if _ = -1 then _ else _) = _
        rw [← hp]
      have big : ∀ w1, (t = -1 → w1 = v1) → (t ≠ -1 → w1 = (if v1 = -1 then t else jmin v1 t)) → Ok (fun (q : Int32 × gSt) => q.1 = (spF (fun c => tot2 N (g_sf τ 6 0) 1 (oC (g_sf τ 6 0) c) (ln (g_sf τ 6 0) c)) 5).1 - (spF (fun c => tot2 N (g_sf τ 6 0) 1 (oC (g_sf τ 6 0) c) (ln (g_sf τ 6 0) c)) 5).2 ∧ Km (g_sf τ 6 0) q.2) (gJoin1 (fun (w0_60 : Int32) =>
              self w1 w0_60 (v3 + 1) s') (fun j60 =>
            if t ≤ v2 then
              j60 v2
            else
              j60 t)) := by
        intro w1 g1 g2
        refine okz ?_
        by_cases c2 : t = -1
        · refine okt (by rw [tle, c2, tlm1]; exact hge) (go w1 v2 ?_)
          rw [hn, if_pos c2, g1 c2]
        · by_cases c3 : t ≤ v2
          · refine okt c3 (go w1 v2 ?_)
            rw [hn, if_neg c2, g2 c2, jmax_l c3]
          · refine okf c3 (go w1 t ?_)
            rw [hn, if_neg c2, g2 c2, jmax_r c3]
      by_cases c2 : t = -1
      · exact okt c2 (big v1 (fun _ => rfl) (fun e => absurd c2 e))
      · refine okf c2 (ok0 ?_)
        by_cases c3 : v1 = -1
        · exact okt c3 (big t (fun e => absurd e c2) (fun _ => (if_pos c3).symm))
        · refine okf c3 ?_
          by_cases c4 : v1 ≤ t
          · refine okt c4 (big v1 (fun e => absurd e c2) (fun _ => ?_))
            rw [if_neg c3]
            unfold jmin
            rw [if_neg (by rw [tlt]; rw [tle] at c4; omega)]
          · refine okf c4 (big t (fun e => absurd e c2) (fun _ => ?_))
            rw [if_neg c3]
            unfold jmin
            rw [if_pos (by rw [tlt]; rw [tle] at c4; omega)]
  obtain ⟨⟨b, s⟩, e1, hb, hK⟩ := C
  obtain ⟨⟨b', t⟩, e2, hb', hKm⟩ := M
  refine ⟨b, s, t, ?_, ?_, hR6.keep hK hKm⟩
  · unfold f_X9_spread
    rw [e1]
    rfl
  · rw [e2]
    dsimp only at hb hb'
    rw [hb, hb']
