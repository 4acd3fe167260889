/-! ===== pure: setGround ===== -/
def groundF (x y x2 y2 g : Int32) (k : Nat) (a : Int32 × (Nat → Int32)) : Int32 × (Nat → Int32) :=
  if ((x.toInt ≤ ((k % 12 : Nat) : Int) ∧ ((k % 12 : Nat) : Int) ≤ x2.toInt) ∧ y.toInt ≤ ((k / 12 : Nat) : Int) ∧ ((k / 12 : Nat) : Int) ≤ y2.toInt) ∧ a.2 k ≠ g then (a.1 + 1, upd a.2 k g) else a
theorem cover_eq {σ τ : gSt} {N : Nat} {x y x2 y2 g : Int32} (hR : Rel σ τ) (hN : 13 < N) (h1 : onMap τ x y) (h2 : onMap τ x2 y2) (hx : x.toInt ≤ x2.toInt) (hy : y.toInt ≤ y2.toInt) : f_X8_cover N σ x y x2 y2 g = some ((gFold (groundF x y x2 y2 g) 144 0 (0, τ.1 1)).1, g_sa σ 1 (gFold (groundF x y x2 y2 g) 144 0 (0, τ.1 1)).2) := by
  obtain ⟨w1, w2, w3, w4, -⟩ := hR.2.1
  obtain ⟨a1, a2⟩ := h1
  obtain ⟨b1, b2⟩ := h2
  generalize hF : gFold (groundF x y x2 y2 g) 144 0 (0, τ.1 1) = F
  have ew : σ.2 0 = τ.2 0 := hR.1.2.2.1
  have eh : σ.2 1 = τ.2 1 := hR.1.2.2.2.1
  unfold f_X8_cover
  refine gLoop3_eq (fun m c v s => ∃ H, s = g_sa σ 1 H ∧ (y.toInt ≤ v.toInt ∧ v.toInt ≤ y2.toInt + 1) ∧ (m : Int) = 12 - v.toInt ∧ gFold (groundF x y x2 y2 g) (144 - 12 * v.toInt.toNat) (12 * v.toInt.toNat) (c, H) = F) ?_ N (12 - y.toInt.toNat) 0 y σ (by omega) ⟨τ.1 1, by rw [← hR.1.1.2.1, sa_id], by omega, by omega, ?_⟩
  · intro m c v s self ⟨H, hs, hv, hm, hG⟩ ih
    subst hs
    rw [show (g_sa σ 1 H).2 1 = τ.2 1 from eh]
    have stop : y2.toInt < v.toInt → (c, H) = F := fun c0 => by
      have := gFold_skip (f := groundF x y x2 y2 g) (a := (c, H)) (144 - 12 * v.toInt.toNat) 0 (12 * v.toInt.toNat) (fun j h1 h2 => if_neg (fun g => by have := g.1.2; omega))
      rw [Nat.add_zero] at this
      rw [← hG, this]
      rfl
    by_cases c0 : τ.2 1 ≤ v
    · rw [if_pos c0]
      rw [tle] at c0
      rw [← stop (by omega)]
    rw [if_neg c0]
    rw [tle] at c0
    by_cases c01 : y2 < v
    · rw [if_pos c01]
      rw [tlt] at c01
      rw [← stop (by omega)]
    rw [if_neg c01]
    rw [tlt] at c01
    refine gLoop3_eq (fun m c v7 s => ∃ H, s = g_sa σ 1 H ∧ (x.toInt ≤ v7.toInt ∧ v7.toInt ≤ x2.toInt + 1) ∧ (m : Int) = 12 - v7.toInt ∧ gFold (groundF x y x2 y2 g) (144 - (12 * v.toInt.toNat + v7.toInt.toNat)) (12 * v.toInt.toNat + v7.toInt.toNat) (c, H) = F) ?_ N (12 - x.toInt.toNat) c x (g_sa σ 1 H) (by omega) ⟨H, rfl, by omega, by omega, ?_⟩
    · clear hG stop
      intro m7 c v7 s self7 ⟨H, hs, hv7, hm7, hG⟩ ih7
      subst hs
      simp only [gJoin0]
      rw [show (g_sa σ 1 H).2 0 = τ.2 0 from ew]
      have next : x2.toInt < v7.toInt → self c (v + 1) (g_sa σ 1 H) = some (F.1, g_sa σ 1 F.2) := fun c1 => by
        have e1 := inc1 (v := v) (n := 12) (by omega) (by omega)
        refine ih (m - 1) c (v + 1) _ (by omega) ⟨H, rfl, by rw [e1]; omega, by rw [e1]; omega, ?_⟩
        rw [e1, ← hG]
        have := gFold_skip (f := groundF x y x2 y2 g) (a := (c, H)) (12 - v7.toInt.toNat) (144 - 12 * (v.toInt + 1).toNat) (12 * v.toInt.toNat + v7.toInt.toNat) (fun j h1 h2 => if_neg (fun g => by have := g.1.1; omega))
        rw [show 12 - v7.toInt.toNat + (144 - 12 * (v.toInt + 1).toNat) = 144 - (12 * v.toInt.toNat + v7.toInt.toNat) by omega, show 12 * v.toInt.toNat + v7.toInt.toNat + (12 - v7.toInt.toNat) = 12 * (v.toInt + 1).toNat by omega] at this
        exact this.symm
      by_cases c1 : τ.2 0 ≤ v7
      · rw [if_pos c1]
        rw [tle] at c1
        exact next (by omega)
      rw [if_neg c1]
      rw [tle] at c1
      by_cases c11 : x2 < v7
      · rw [if_pos c11]
        rw [tlt] at c11
        exact next (by omega)
      rw [if_neg c11]
      rw [tlt] at c11
      have e7 := inc1 (v := v7) (n := 12) (by omega) (by omega)
      have hn := num_in hR.2.1 (x := v7) (y := v) ⟨⟨by omega, by omega⟩, by omega, by omega⟩
      have eK : 12 * v.toInt.toNat + v7.toInt.toNat = (12 * v + v7).toInt.toNat := by rw [hn.1]; omega
      rw [num_eq, gget_ga (by omega) (by rw [len144.2]; omega), ga_sa, ← eK]
      rw [show 144 - (12 * v.toInt.toNat + v7.toInt.toNat) = 143 - (12 * v.toInt.toNat + v7.toInt.toNat) + 1 by omega, gFold_succ] at hG
      simp only [gJoin2]
      by_cases c2 : H (12 * v.toInt.toNat + v7.toInt.toNat) = g
      · rw [if_pos c2]
        rw [show groundF x y x2 y2 g (12 * v.toInt.toNat + v7.toInt.toNat) (c, H) = (c, H) from if_neg (fun g => g.2 c2)] at hG
        refine ih7 (m7 - 1) c (v7 + 1) _ (by omega) ⟨H, rfl, by rw [e7]; omega, by rw [e7]; omega, ?_⟩
        rw [e7, ← hG]
        congr 1 <;> omega
      · rw [if_neg c2]
        rw [show groundF x y x2 y2 g (12 * v.toInt.toNat + v7.toInt.toNat) (c, H) = (c + 1, upd H (12 * v.toInt.toNat + v7.toInt.toNat) g) from if_pos ⟨by omega, c2⟩] at hG
        refine ih7 (m7 - 1) (c + 1) (v7 + 1) _ (by omega) ⟨upd H (12 * v.toInt.toNat + v7.toInt.toNat) g, ?_, by rw [e7]; omega, by rw [e7]; omega, ?_⟩
        · rw [gput_pa (by omega) (by rw [len144.2]; omega), pa_sa, ← eK]
        · rw [e7, ← hG]
          congr 1 <;> omega
    · rw [← hG]
      have := gFold_skip (f := groundF x y x2 y2 g) (a := (c, H)) x.toInt.toNat (144 - (12 * v.toInt.toNat + x.toInt.toNat)) (12 * v.toInt.toNat) (fun j h1 h2 => if_neg (fun g => by have := g.1.1; omega))
      rw [show x.toInt.toNat + (144 - (12 * v.toInt.toNat + x.toInt.toNat)) = 144 - 12 * v.toInt.toNat by omega] at this
      exact this.symm
  · rw [← hF]
    have := gFold_skip (f := groundF x y x2 y2 g) (a := (0, τ.1 1)) (12 * y.toInt.toNat) (144 - 12 * y.toInt.toNat) 0 (fun j h1 h2 => if_neg (fun g => by have := g.1.2; omega))
    rw [show 12 * y.toInt.toNat + (144 - 12 * y.toInt.toNat) = 144 by omega, Nat.zero_add] at this
    exact this.symm
theorem ground_m {τ : gSt} {N : Nat} {x y x2 y2 g : Int32} (hT : InvT τ) (hN : 144 < N) (h1 : onMap τ x y) (h2 : onMap τ x2 y2) (hx : x.toInt ≤ x2.toInt) (hy : y.toInt ≤ y2.toInt) (hg : 0 ≤ g.toInt ∧ g.toInt ≤ 4) : f_X10_setGround N τ x y x2 y2 g = some ((gFold (groundF x y x2 y2 g) 144 0 (0, τ.1 1)).1, g_sa (g_sf τ 6 0) 1 (gFold (groundF x y x2 y2 g) 144 0 (0, τ.1 1)).2) := by
  have hT2 := hT
  obtain ⟨w1, w2, w3, w4, -⟩ := hT
  generalize hF : gFold (groundF x y x2 y2 g) 144 0 (0, τ.1 1) = F
  unfold f_X10_setGround
  simp only [gJoin0, gJoin1, gJoin2]
  rw [cell_yes hT2 h1, cell_yes hT2 h2, if_neg one_ne, if_neg one_ne, if_neg (c := x2 < x) (by rw [tlt]; omega), if_neg (c := y2 < y) (by rw [tlt]; omega), in_yes (x := g) (by rw [tl0]; exact hg.1) (by rw [tl4]; exact hg.2), if_neg one_ne, asked2_2 one_ne one_ne, if_neg (show ¬ ((1 : Int32), g_sf τ 6 0).1 = 0 from one_ne)]
  refine gLoop3_eq (fun m c v s => ∃ H, s = g_sa (g_sf τ 6 0) 1 H ∧ (0 ≤ v.toInt ∧ v.toInt ≤ 144) ∧ (m : Int) = 144 - v.toInt ∧ gFold (groundF x y x2 y2 g) (144 - v.toInt.toNat) v.toInt.toNat (c, H) = F) ?_ N 144 0 0 _ hN ⟨τ.1 1, (sa_id (σ := g_sf τ 6 0) (r := 1)).symm, by rw [tl0]; omega, by rw [tl0]; rfl, by rw [tl0]; exact hF⟩
  intro m c v s self ⟨H, hs, hv, hm3, hG⟩ ih
  subst hs
  by_cases c0 : 144 ≤ v
  · rw [if_pos c0]
    rw [tle, tl144] at c0
    rw [show 144 - v.toInt.toNat = 0 by omega] at hG
    rw [← hG]
    rfl
  · rw [if_neg c0]
    rw [tle, tl144] at c0
    have ed := div12 hv.1
    have em := mod12 hv.1
    have e1 := inc1 (v := v) (n := 144) (by omega) (by omega)
    rw [show 144 - v.toInt.toNat = 143 - v.toInt.toNat + 1 by omega, gFold_succ] at hG
    have go : ∀ c' H', groundF x y x2 y2 g v.toInt.toNat (c, H) = (c', H') → self c' (v + 1) (g_sa (g_sf τ 6 0) 1 H') = some (F.1, g_sa (g_sf τ 6 0) 1 F.2) := fun c' H' hq => ih (m - 1) c' (v + 1) _ (by omega) ⟨H', rfl, by rw [e1]; omega, by rw [e1]; omega, by
      rw [hq] at hG
      rw [e1, ← hG]
      congr 1 <;> omega⟩
    have gv : ¬ (v < 0 ∨ 144 ≤ v.toNatClampNeg) := by rw [tlt, tl0, tcl]; omega
    by_cases i1 : x.toInt ≤ v.toInt % 12 ∧ v.toInt % 12 ≤ x2.toInt
    · rw [in_yes (x := v - v / 12 * 12) (by rw [em]; exact i1.1) (by rw [em]; exact i1.2), if_neg one_ne]
      by_cases i2 : y.toInt ≤ v.toInt / 12 ∧ v.toInt / 12 ≤ y2.toInt
      · rw [in_yes (x := v / 12) (by rw [ed]; exact i2.1) (by rw [ed]; exact i2.2), if_neg one_ne]
        simp only [if_neg gv, ga_sa, pa_sa]
        by_cases c2 : H v.toInt.toNat = g
        · rw [if_pos c2, Int32.add_zero]
          refine go c _ ?_
          rw [show groundF x y x2 y2 g v.toInt.toNat (c, H) = (c, H) from if_neg (fun h => h.2 c2)]
          refine Prod.ext rfl (funext fun j => ?_)
          show H j = upd H v.toInt.toNat g j
          rw [upd_at]
          split
          · rename_i hj; rw [hj, c2]
          · rfl
        · rw [if_neg c2]
          exact go _ _ (if_pos ⟨by omega, c2⟩)
      · rw [in_no (x := v / 12) (by rw [ed]; omega), if_pos rfl]
        exact go c H (if_neg (fun h => i2 (by have := h.1.2; omega)))
    · rw [in_no (x := v - v / 12 * 12) (by rw [em]; omega), if_pos rfl]
      exact go c H (if_neg (fun h => i1 (by have := h.1.1; omega)))
theorem Rel.g {σ τ : gSt} {f : Nat → Int32} (hR : Rel σ τ) (hf : ∀ k, 0 ≤ (f k).toInt ∧ (f k).toInt ≤ 4) : Rel (g_sa σ 1 f) (g_sa τ 1 f) := by
  obtain ⟨⟨h1, h2, h3⟩, h4, h5⟩ := hR
  refine ⟨⟨?_, h2, h3⟩, ⟨h4.1, h4.2.1, h4.2.2.1, h4.2.2.2.1, h4.2.2.2.2.1, hf⟩, h5⟩
  exact ⟨h1.1, rfl, h1.2.2⟩
theorem owe_setGround {N : Nat} (hN : 144 < N) : Owe_setGround N := by
  intro σ τ x y x2 y2 g hR
  have hT := hR.2.1
  have hT2 := hT
  obtain ⟨w1, w2, w3, w4, -⟩ := hT2
  have no1 : ¬ (onMap τ x y ∧ onMap τ x2 y2) → f_X10_setGround N τ x y x2 y2 g = some (0, g_sf τ 6 1) := by
    intro h
    have q : (if f_X10_isCell τ x y = 0 then (0 : Int32) else if f_X10_isCell τ x2 y2 = 0 then 0 else 1) = 0 := by
      by_cases h1 : onMap τ x y
      · rw [cell_no hT (fun h2 => h ⟨h1, h2⟩), if_pos rfl, ite_self]
      · rw [cell_no hT h1, if_pos rfl]
    unfold f_X10_setGround
    simp only [gJoin0, gJoin1, gJoin2, asked2_0, if_true, ite_self]
    by_cases h1 : onMap τ x y
    · rw [cell_no hT (fun h2 => h ⟨h1, h2⟩), if_pos rfl, ite_self]
    · rw [cell_no hT h1, if_pos rfl]
  have no2 : (onMap τ x y ∧ onMap τ x2 y2) → ¬ ((x.toInt ≤ x2.toInt ∧ y.toInt ≤ y2.toInt) ∧ 0 ≤ g.toInt ∧ g.toInt ≤ 4) → f_X10_setGround N τ x y x2 y2 g = some (0, g_sf τ 6 2) := by
    intro h hn
    unfold f_X10_setGround
    simp only [gJoin0, gJoin1, gJoin2]
    rw [cell_yes hT h.1, cell_yes hT h.2, if_neg one_ne, if_neg one_ne]
    simp only [asked2_1 one_ne, if_true]
    by_cases i1 : x2 < x
    · rw [if_pos i1]
    rw [if_neg i1]
    by_cases i2 : y2 < y
    · rw [if_pos i2]
    rw [if_neg i2]
    rw [tlt] at i1 i2
    rw [in_no (x := g) (by rw [tl0, tl4]; omega), if_pos rfl]
  unfold f_X9_setGround
  by_cases h1 : onMap τ x y
  · rw [needCell_yes hR.1 h1, if_pos rfl]
    by_cases h2 : onMap τ x2 y2
    · rw [needCell_yes hR.1 h2, if_pos rfl]
      have a1 := h1.1
      have a2 := h1.2
      have b1 := h2.1
      have b2 := h2.2
      by_cases hx : x.toInt ≤ x2.toInt
      · rw [need_yes (x := x2) hx (by rw [tl12]; omega), if_pos rfl]
        by_cases hy : y.toInt ≤ y2.toInt
        · rw [need_yes (x := y2) hy (by rw [tl12]; omega), if_pos rfl]
          by_cases hg : 0 ≤ g.toInt ∧ g.toInt ≤ 4
          · rw [need_yes (x := g) (by rw [tl0]; exact hg.1) (by rw [tl4]; exact hg.2), if_pos rfl, cover_eq hR (by omega) h1 h2 hx hy, ground_m hT hN h1 h2 hx hy hg, Option.bind_some]
            refine Agr.yes ((Rel.six (x := 0) hR).g ?_) (Or.inl rfl) rfl rfl
            refine gFold_all (P := fun a : Int32 × (Nat → Int32) => ∀ k, 0 ≤ (a.2 k).toInt ∧ (a.2 k).toInt ≤ 4) ?_ 144 0 (0, τ.1 1) hT.2.2.2.2.2
            intro k a ha
            unfold groundF
            split
            · exact upd_all (P := fun v => 0 ≤ v.toInt ∧ v.toInt ≤ 4) ha hg
            · exact ha
          · rw [need_no (x := g) (by rw [tl0, tl4]; omega), if_neg (by decide), no2 ⟨h1, h2⟩ (fun h => hg h.2)]
            exact Agr.no hR (by decide) (Or.inr (Or.inr rfl)) rfl
        · rw [need_no (x := y2) (Or.inl (by omega)), if_neg (by decide), no2 ⟨h1, h2⟩ (fun h => hy h.1.2)]
          exact Agr.no hR (by decide) (Or.inr (Or.inr rfl)) rfl
      · rw [need_no (x := x2) (Or.inl (by omega)), if_neg (by decide), no2 ⟨h1, h2⟩ (fun h => hx h.1.1)]
        exact Agr.no hR (by decide) (Or.inr (Or.inr rfl)) rfl
    · rw [needCell_no hR.1 h2, if_neg onen, no1 (fun h => h2 h.2)]
      exact Agr.no hR (by decide) (Or.inr (Or.inl rfl)) rfl
  · rw [needCell_no hR.1 h1, if_neg onen, no1 (fun h => h1 h.1)]
    exact Agr.no hR (by decide) (Or.inr (Or.inl rfl)) rfl
