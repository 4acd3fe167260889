/-! ===== pure: the least lot, on both sides ===== -/
def Least (P : Nat → Prop) (lot : Nat → Int32) (n : Nat) (r : Int32) : Prop := (r = -1 ∧ ∀ i, i < n → ¬ P i) ∨ ∃ i : Nat, i < n ∧ r.toInt = i ∧ P i ∧ ∀ j, j < n → P j → (lot i).toInt < (lot j).toInt ∨ ((lot i).toInt = (lot j).toInt ∧ i ≤ j)
theorem Least.eq {P : Nat → Prop} {lot : Nat → Int32} {n : Nat} {r q : Int32} (h : Least P lot n r) (g : Least P lot n q) : r = q := by
  rcases h with ⟨h1, h2⟩ | ⟨i, h1, h2, h3, h4⟩ <;> rcases g with ⟨g1, g2⟩ | ⟨j, g1, g2, g3, g4⟩
  · rw [h1, g1]
  · exact absurd g3 (h2 j g1)
  · exact absurd h3 (g2 i h1)
  · have a := h4 j g1 g3
    have b := g4 i h1 h3
    rw [teq]
    omega
theorem Least.keep {P : Nat → Prop} {lot : Nat → Int32} {n : Nat} {r : Int32} (h : Least P lot n r) (hn : ¬ P n) : Least P lot (n + 1) r := by
  rcases h with ⟨h1, h2⟩ | ⟨i, h1, h2, h3, h4⟩
  · refine Or.inl ⟨h1, fun i hi hp => ?_⟩
    by_cases e : i = n
    · exact hn (e ▸ hp)
    · exact h2 i (by omega) hp
  · refine Or.inr ⟨i, by omega, h2, h3, fun j hj hp => ?_⟩
    by_cases e : j = n
    · exact absurd (e ▸ hp) hn
    · exact h4 j (by omega) hp
theorem Least.first {P : Nat → Prop} {lot : Nat → Int32} {n : Nat} {r v : Int32} (h : Least P lot n r) (hr : r = -1) (hn : P n) (hv : v.toInt = n) : Least P lot (n + 1) v := by
  rcases h with ⟨h1, h2⟩ | ⟨i, h1, h2, h3, h4⟩
  · refine Or.inr ⟨n, by omega, hv, hn, fun j hj hp => ?_⟩
    by_cases e : j = n
    · exact Or.inr ⟨by rw [e], by omega⟩
    · exact absurd hp (h2 j (by omega))
  · rw [hr, tlm1] at h2
    omega
theorem Least.less {P : Nat → Prop} {lot : Nat → Int32} {n : Nat} {r v : Int32} (h : Least P lot n r) (hr : r ≠ -1) (hn : P n) (hv : v.toInt = n) (hl : (lot n).toInt < (lot r.toInt.toNat).toInt) : Least P lot (n + 1) v := by
  rcases h with ⟨h1, h2⟩ | ⟨i, h1, h2, h3, h4⟩
  · exact absurd h1 hr
  · rw [h2, show ((i : Nat) : Int).toNat = i from rfl] at hl
    refine Or.inr ⟨n, by omega, hv, hn, fun j hj hp => ?_⟩
    by_cases e : j = n
    · exact Or.inr ⟨by rw [e], by omega⟩
    · have := h4 j (by omega) hp
      omega
theorem Least.stay {P : Nat → Prop} {lot : Nat → Int32} {n : Nat} {r : Int32} (h : Least P lot n r) (hr : r ≠ -1) (hl : (lot r.toInt.toNat).toInt ≤ (lot n).toInt) : Least P lot (n + 1) r := by
  rcases h with ⟨h1, h2⟩ | ⟨i, h1, h2, h3, h4⟩
  · exact absurd h1 hr
  · rw [h2, show ((i : Nat) : Int).toNat = i from rfl] at hl
    refine Or.inr ⟨i, by omega, h2, h3, fun j hj hp => ?_⟩
    by_cases e : j = n
    · rw [e]; omega
    · exact h4 j (by omega) hp
theorem Least.in_ {P : Nat → Prop} {lot : Nat → Int32} {n : Nat} {r : Int32} (h : Least P lot n r) (hr : r ≠ -1) : 0 ≤ r.toInt ∧ r.toInt < n ∧ P r.toInt.toNat := by
  rcases h with ⟨h1, h2⟩ | ⟨i, h1, h2, h3, h4⟩
  · exact absurd h1 hr
  · rw [h2]
    exact ⟨by omega, by omega, h3⟩
/-- who can be drawn next in the class k, not of the club av -/
def candC (s : gSt) (k av : Int32) (i : Nat) : Prop := s.1 16 i = k ∧ s.1 19 i = -1 ∧ s.1 17 i ≠ av
theorem least_c {s : gSt} {N n : Nat} {k av : Int32} (hN : 24 < N) (hn : (s.2 10).toInt = n) (hn2 : n ≤ 24) : Ok (Least (candC s k av) (s.1 18) n) (f_X3_leastLot N s k av) := by
  unfold f_X3_leastLot
  refine gLoop2_ok (fun m r (v : Int32) => (0 ≤ v.toInt ∧ v.toInt ≤ (n : Int)) ∧ (m : Int) = 24 - v.toInt ∧ Least (candC s k av) (s.1 18) v.toInt.toNat r) ?_ N 24 (-1) 0 hN ⟨by rw [tl0]; omega, by rw [tl0]; rfl, Or.inl ⟨rfl, fun i hi => by rw [tl0] at hi; exact absurd hi (by omega)⟩⟩
  intro m r v self ⟨hv, hm, hL⟩ ih
  by_cases c : s.2 10 ≤ v
  · refine okt c (Ok.some ?_)
    rw [tle, hn] at c
    rw [show v.toInt.toNat = n by omega] at hL
    exact hL
  · refine okf c (okj ?_)
    rw [tle, hn] at c
    have e1 := inc1 (v := v) (n := 24) (by omega) (by omega)
    have g16 : gget s 16 v = s.1 16 v.toInt.toNat := gget_in hv.1 (by rw [len30.2.2.2.2.1]; omega)
    have g17 : gget s 17 v = s.1 17 v.toInt.toNat := gget_in hv.1 (by rw [len30.2.2.2.2.2.1]; omega)
    have g18 : gget s 18 v = s.1 18 v.toInt.toNat := gget_in hv.1 (by rw [len30.2.2.2.2.2.2.2.2.2]; omega)
    have g19 : gget s 19 v = s.1 19 v.toInt.toNat := gget_in hv.1 (by rw [len24]; omega)
    have go : ∀ q, Least (candC s k av) (s.1 18) (v.toInt.toNat + 1) q → Ok (Least (candC s k av) (s.1 18) n) (self q (v + 1)) := fun q hq => ih (m - 1) q (v + 1) (by omega) ⟨by rw [e1]; omega, by rw [e1]; omega, by rw [e1, show (v.toInt + 1).toNat = v.toInt.toNat + 1 by omega]; exact hq⟩
    rw [g16, g17, g18, g19]
    have skip : ¬ candC s k av v.toInt.toNat → Ok (Least (candC s k av) (s.1 18) n) (self r (v + 1)) := fun h => go r (hL.keep h)
    by_cases c1 : s.1 16 v.toInt.toNat = k
    · refine okt c1 ?_
      by_cases c2 : s.1 19 v.toInt.toNat = -1
      · refine okt c2 (okj (okf one_ne ?_))
        by_cases c3 : s.1 17 v.toInt.toNat = av
        · exact okt c3 (skip (fun h => h.2.2 c3))
        · refine okf c3 ?_
          by_cases c4 : r = -1
          · exact okt c4 (go v (hL.first c4 ⟨c1, c2, c3⟩ (by omega)))
          · refine okf c4 ?_
            obtain ⟨i1, i2, -⟩ := hL.in_ c4
            have g18r : gget s 18 r = s.1 18 r.toInt.toNat := gget_in i1 (by rw [len30.2.2.2.2.2.2.2.2.2]; omega)
            rw [g18r]
            by_cases c5 : s.1 18 r.toInt.toNat ≤ s.1 18 v.toInt.toNat
            · exact okt c5 (go r (hL.stay c4 (by rw [tle] at c5; exact c5)))
            · exact okf c5 (go v (hL.less c4 ⟨c1, c2, c3⟩ (by omega) (by rw [tle] at c5; omega)))
      · exact okf c2 (okj (okt rfl (skip (fun h => c2 h.2.1))))
    · exact okf c1 (okj (okt rfl (skip (fun h => c1 h.1))))
/-- the same of the reference -/
def candM (τ : gSt) (k : Int32) (i : Nat) : Prop := τ.1 6 i = k ∧ τ.1 8 i = -1
def candF (τ : gSt) (k av : Int32) (i : Nat) : Prop := candM τ k i ∧ τ.1 7 i ≠ av
/-- what the reference's next knows among the first n -/
def NextI (τ : gSt) (k av : Int32) (n : Nat) (r f : Int32) : Prop := (f = 1 ∧ r ≠ -1 ∧ Least (candF τ k av) (τ.1 17) n r) ∨ (f = 0 ∧ (∀ i, i < n → ¬ candF τ k av i) ∧ Least (candM τ k) (τ.1 17) n r)
def Next (τ : gSt) (k av : Int32) (n : Nat) (r : Int32) : Prop := (r ≠ -1 ∧ Least (candF τ k av) (τ.1 17) n r) ∨ ((∀ i, i < n → ¬ candF τ k av i) ∧ Least (candM τ k) (τ.1 17) n r)
theorem next_m {τ : gSt} {N n : Nat} {k av : Int32} (hN : 24 < N) (hn : (τ.2 3).toInt = n) (hn2 : n ≤ 24) : Ok (Next τ k av n) (f_X10_next N τ k av) := by
  unfold f_X10_next
  refine gLoop3_ok (fun m r f (v : Int32) => (0 ≤ v.toInt ∧ v.toInt ≤ (n : Int)) ∧ (m : Int) = 24 - v.toInt ∧ NextI τ k av v.toInt.toNat r f) ?_ N 24 (-1) 0 0 hN ⟨by rw [tl0]; omega, by rw [tl0]; rfl, Or.inr ⟨rfl, fun i hi => by rw [tl0] at hi; exact absurd hi (by omega), Or.inl ⟨rfl, fun i hi => by rw [tl0] at hi; exact absurd hi (by omega)⟩⟩⟩
  intro m r f v self ⟨hv, hm, hL⟩ ih
  by_cases c : τ.2 3 ≤ v
  · refine okt c (Ok.some ?_)
    rw [tle, hn] at c
    rw [show v.toInt.toNat = n by omega] at hL
    exact hL.elim (fun h => Or.inl h.2) (fun h => Or.inr h.2)
  · rw [tle, hn] at c
    have gv : ¬ (v < 0 ∨ 24 ≤ v.toNatClampNeg) := by rw [tlt, tl0, tcl]; omega
    have e1 := inc1 (v := v) (n := 24) (by omega) (by omega)
    refine okf (by rw [tle, hn]; exact c) (okf gv ?_)
    have go : ∀ q w, NextI τ k av (v.toInt.toNat + 1) q w → Ok (Next τ k av n) (self q w (v + 1)) := fun q w hq => ih (m - 1) q w (v + 1) (by omega) ⟨by rw [e1]; omega, by rw [e1]; omega, by rw [e1, show (v.toInt + 1).toNat = v.toInt.toNat + 1 by omega]; exact hq⟩
    have g6 : g_ga τ 6 v = τ.1 6 v.toInt.toNat := rfl
    have g7 : g_ga τ 7 v = τ.1 7 v.toInt.toNat := rfl
    have g8 : g_ga τ 8 v = τ.1 8 v.toInt.toNat := rfl
    have g17 : g_ga τ 17 v = τ.1 17 v.toInt.toNat := rfl
    have skip : ¬ candM τ k v.toInt.toNat → Ok (Next τ k av n) (self r f (v + 1)) := fun h => go r f (hL.elim (fun g => Or.inl ⟨g.1, g.2.1, g.2.2.keep (fun e => h e.1)⟩) (fun g => Or.inr ⟨g.1, fun i hi e => by
      by_cases ei : i = v.toInt.toNat
      · exact h (ei ▸ e.1)
      · exact g.2.1 i (by omega) e, g.2.2.keep h⟩))
    show Ok _ (if g_ga τ 6 v = k then _ else _)
    rw [g6]
    by_cases c1 : τ.1 6 v.toInt.toNat = k
    · refine okt c1 (okf gv ?_)
      rw [g8]
      by_cases c2 : τ.1 8 v.toInt.toNat = -1
      · refine okt c2 (okf gv (okj ?_))
        rw [g7]
        have hm2 : candM τ k v.toInt.toNat := ⟨c1, c2⟩
        have vm : v ≠ -1 := fun e => by rw [e, tlm1] at hv; omega
        have key : ∀ w : Int32, (w = 1 ∧ candF τ k av v.toInt.toNat) ∨ (w = 0 ∧ ¬ candF τ k av v.toInt.toNat) → Ok (Next τ k av n) (if r = -1 then self v w (v + 1) else if w = 0 then (if w = f then if v < 0 ∨ 24 ≤ v.toNatClampNeg then none else if r < 0 ∨ 24 ≤ r.toNatClampNeg then none else if g_ga τ 17 r ≤ g_ga τ 17 v then self r f (v + 1) else self v w (v + 1) else self r f (v + 1)) else if f = 0 then self v w (v + 1) else (if w = f then if v < 0 ∨ 24 ≤ v.toNatClampNeg then none else if r < 0 ∨ 24 ≤ r.toNatClampNeg then none else if g_ga τ 17 r ≤ g_ga τ 17 v then self r f (v + 1) else self v w (v + 1) else self r f (v + 1))) := by
          intro w hw
          have lots : r ≠ -1 → w = f → Ok (Next τ k av n) (if v < 0 ∨ 24 ≤ v.toNatClampNeg then none else if r < 0 ∨ 24 ≤ r.toNatClampNeg then none else if g_ga τ 17 r ≤ g_ga τ 17 v then self r f (v + 1) else self v w (v + 1)) := by
            intro hr hwf
            have hin : 0 ≤ r.toInt ∧ r.toInt < v.toInt := by
              rcases hL with ⟨_, _, g⟩ | ⟨_, _, g⟩
              · have := g.in_ hr; omega
              · have := g.in_ hr; omega
            have gr : ¬ (r < 0 ∨ 24 ≤ r.toNatClampNeg) := by rw [tlt, tl0, tcl]; omega
            refine okf gv (okf gr ?_)
            rw [g17, show g_ga τ 17 r = τ.1 17 r.toInt.toNat from rfl]
            rcases hL with ⟨hf, _, hl⟩ | ⟨hf, hnone, hl⟩
            · rcases hw with ⟨h1, h2⟩ | ⟨h1, h2⟩
              · by_cases q : τ.1 17 r.toInt.toNat ≤ τ.1 17 v.toInt.toNat
                · exact okt q (go r f (Or.inl ⟨hf, hr, hl.stay hr (by rw [tle] at q; exact q)⟩))
                · exact okf q (go v w (Or.inl ⟨h1, vm, hl.less hr h2 (by omega) (by rw [tle] at q; omega)⟩))
              · exact absurd (h1.symm.trans (hwf.trans hf)).symm one_ne
            · rcases hw with ⟨h1, h2⟩ | ⟨h1, h2⟩
              · exact absurd (h1.symm.trans (hwf.trans hf)) one_ne
              · have nn : ∀ i, i < v.toInt.toNat + 1 → ¬ candF τ k av i := fun i hi e => by
                  by_cases ei : i = v.toInt.toNat
                  · exact h2 (ei ▸ e)
                  · exact hnone i (by omega) e
                by_cases q : τ.1 17 r.toInt.toNat ≤ τ.1 17 v.toInt.toNat
                · exact okt q (go r f (Or.inr ⟨hf, nn, hl.stay hr (by rw [tle] at q; exact q)⟩))
                · exact okf q (go v w (Or.inr ⟨h1, nn, hl.less hr hm2 (by omega) (by rw [tle] at q; omega)⟩))
          by_cases hr : r = -1
          · refine okt hr (go v w ?_)
            rcases hL with ⟨_, g, _⟩ | ⟨hf, hnone, hl⟩
            · exact absurd hr g
            · rcases hw with ⟨h1, h2⟩ | ⟨h1, h2⟩
              · exact Or.inl ⟨h1, vm, Least.first (r := -1) (Or.inl ⟨rfl, hnone⟩) rfl h2 (by omega)⟩
              · exact Or.inr ⟨h1, fun i hi e => by
                  by_cases ei : i = v.toInt.toNat
                  · exact h2 (ei ▸ e)
                  · exact hnone i (by omega) e, hl.first hr hm2 (by omega)⟩
          refine okf hr ?_
          by_cases hw0 : w = 0
          · refine okt hw0 ?_
            by_cases hwf : w = f
            · exact okt hwf (lots hr hwf)
            · refine okf hwf (go r f ?_)
              rcases hL with ⟨hf, hr2, hl⟩ | ⟨hf, _, _⟩
              · rcases hw with ⟨h1, _⟩ | ⟨h1, h2⟩
                · exact absurd (h1.symm.trans hw0) one_ne
                · exact Or.inl ⟨hf, hr2, hl.keep h2⟩
              · exact absurd (hw0.trans hf.symm) hwf
          · refine okf hw0 ?_
            by_cases hf0 : f = 0
            · refine okt hf0 (go v w ?_)
              rcases hL with ⟨hf, _, _⟩ | ⟨_, hnone, _⟩
              · exact absurd (hf.symm.trans hf0) one_ne
              · rcases hw with ⟨h1, h2⟩ | ⟨h1, h2⟩
                · exact Or.inl ⟨h1, vm, Least.first (r := -1) (Or.inl ⟨rfl, hnone⟩) rfl h2 (by omega)⟩
                · exact absurd h1 hw0
            · refine okf hf0 ?_
              by_cases hwf : w = f
              · exact okt hwf (lots hr hwf)
              · exfalso
                rcases hL with ⟨hf, _, _⟩ | ⟨hf, _, _⟩
                · rcases hw with ⟨h1, _⟩ | ⟨h1, _⟩
                  · exact hwf (h1.trans hf.symm)
                  · exact hw0 h1
                · exact hf0 hf
        by_cases c3 : τ.1 7 v.toInt.toNat = av
        · exact okt c3 (key 0 (Or.inr ⟨rfl, fun h => h.2 c3⟩))
        · exact okf c3 (key 1 (Or.inl ⟨rfl, hm2, c3⟩))
      · exact okf c2 (skip (fun h => c2 h.2))
    · exact okf c1 (skip (fun h => c1 h.1))
