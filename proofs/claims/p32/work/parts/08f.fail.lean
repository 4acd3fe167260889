/-! ===== pure: fail ===== -/
def endsOne (τ : gSt) (x : Int32) (c : Nat) : Prop := 0 < (τ.1 5 c).toInt ∧ (τ.1 4 (6 * c) = x ∨ τ.1 4 (6 * c + ((τ.1 5 c).toInt.toNat - 1)) = x)
theorem ga_at {σ : gSt} {r : Nat} {i : Int32} {n : Nat} (h : i.toInt = n) : g_ga σ r i = σ.1 r n := by
  unfold g_ga
  rw [tcl, h]
  rfl
theorem begins_c {σ τ : gSt} {x c : Int32} (hR : Rel σ τ) (hx : 0 ≤ x.toInt) (hc : isK c) : endsOne τ x c.toInt.toNat ↔ (f_X2_controlAt σ c 0 = x ∨ f_X2_finish σ c = x) := by
  have h1 := hc.1
  have h2 := hc.2
  have hl := hR.2.2.2.1.1 c.toInt.toNat
  have xm : x ≠ -1 := fun e => by rw [e, tlm1] at hx; omega
  have es : (τ.1 5 c.toInt.toNat - 1).toInt = (τ.1 5 c.toInt.toNat).toInt - 1 := by rw [tsub (by rw [tl1]; omega), tl1]
  unfold f_X2_finish endsOne
  rw [clen hR.1 hc]
  by_cases h0 : 0 < (τ.1 5 c.toInt.toNat).toInt
  · rw [cat_in hR hc (by rw [tl0]; omega) (by rw [tl0]; omega), cat_in hR hc (by rw [es]; omega) (by rw [es]; omega)]
    rw [ga_at (n := 6 * c.toInt.toNat) (by rw [ent_in hc (by rw [tl0]; omega) (by rw [tl0]; omega), tl0]; omega), ga_at (n := 6 * c.toInt.toNat + ((τ.1 5 c.toInt.toNat).toInt.toNat - 1)) (by rw [ent_in hc (by rw [es]; omega) (by rw [es]; omega), es]; omega)]
    exact ⟨fun h => h.2, fun h => ⟨h0, h⟩⟩
  · rw [cat_out hR.1 hc (by rw [tl0]; omega), cat_out hR.1 hc (by rw [es]; omega)]
    exact ⟨fun h => absurd h.1 h0, fun h => by rcases h with h | h <;> exact absurd h.symm xm⟩
theorem begins_yes {σ τ : gSt} {N : Nat} {x : Int32} (hR : Rel σ τ) (hN : 5 < N) (hx : 0 ≤ x.toInt) (h : ∃ c : Nat, c < 5 ∧ endsOne τ x c) : f_X2_beginsOrEndsOne N σ x = some 1 := by
  unfold f_X2_beginsOrEndsOne
  refine gLoop1_eq (fun m v => (0 ≤ v.toInt ∧ v.toInt ≤ 5) ∧ (m : Int) = 5 - v.toInt ∧ ∀ c : Nat, (c : Int) < v.toInt → ¬ endsOne τ x c) ?_ N 5 0 hN ⟨by rw [tl0]; omega, by rw [tl0]; rfl, fun c hc => by rw [tl0] at hc; omega⟩
  intro m v self ⟨hv, hm, hI⟩ ih
  obtain ⟨c, hc, hE⟩ := h
  have h5 : v.toInt < 5 := by
    rcases Int.lt_or_le v.toInt 5 with g | g
    · exact g
    · exact absurd hE (hI c (by omega))
  have hk : isK v := ⟨hv.1, h5⟩
  have hb := begins_c hR hx hk
  rw [if_neg (by rw [tle, tl5]; omega)]
  by_cases c1 : f_X2_controlAt σ v 0 = x
  · rw [if_pos c1]
  rw [if_neg c1]
  by_cases c2 : f_X2_finish σ v = x
  · rw [if_pos c2]
  rw [if_neg c2]
  have e1 : (v + 1).toInt = v.toInt + 1 := by rw [tadd (by rw [tl1]; omega), tl1]
  refine ih (m - 1) (v + 1) (by omega) ⟨by rw [e1]; omega, by rw [e1]; omega, fun d hd => ?_⟩
  rw [e1] at hd
  by_cases hd2 : d = v.toInt.toNat
  · subst hd2
    rw [hb]
    exact fun h => h.elim c1 c2
  · exact hI d (by omega)
theorem begins_no {σ τ : gSt} {N : Nat} {x : Int32} (hR : Rel σ τ) (hN : 5 < N) (hx : 0 ≤ x.toInt) (h : ¬ ∃ c : Nat, c < 5 ∧ endsOne τ x c) : f_X2_beginsOrEndsOne N σ x = some 0 := by
  unfold f_X2_beginsOrEndsOne
  refine gLoop1_eq (fun m v => (0 ≤ v.toInt ∧ v.toInt ≤ 5) ∧ (m : Int) = 5 - v.toInt) ?_ N 5 0 hN ⟨by rw [tl0]; omega, by rw [tl0]; rfl⟩
  intro m v self ⟨hv, hm⟩ ih
  by_cases h5 : 5 ≤ v
  · rw [if_pos h5]
  rw [if_neg h5]
  rw [tle, tl5] at h5
  have hk : isK v := ⟨hv.1, by omega⟩
  have hb := begins_c hR hx hk
  have hn : ¬ (f_X2_controlAt σ v 0 = x ∨ f_X2_finish σ v = x) := fun g => h ⟨v.toInt.toNat, by omega, hb.mpr g⟩
  rw [if_neg (fun g => hn (Or.inl g)), if_neg (fun g => hn (Or.inr g))]
  have e1 : (v + 1).toInt = v.toInt + 1 := by rw [tadd (by rw [tl1]; omega), tl1]
  exact ih (m - 1) (v + 1) (by omega) ⟨by rw [e1]; omega, by rw [e1]; omega⟩
/-- the reference's walk over the classes: what stands behind it is r -/
theorem fail_m {τ : gSt} {N : Nat} {x x2 : Int32} {r : Option (Int32 × gSt)} (hI : Inv τ) (hN : 5 < N)
    (h0 : (¬ isC τ x ∨ ∃ c : Nat, c < 5 ∧ endsOne τ x c) → some (0, (f_X10_asked_ τ (f_X10_isControl τ x) 0).2) = r)
    (h1 : isC τ x → (¬ ∃ c : Nat, c < 5 ∧ endsOne τ x c) → some ((g_ga (g_sf τ 6 0) 3 x) &&& 1, g_pa (g_sf τ 6 0) 3 x (x2 &&& 1)) = r) : f_X10_fail N τ x x2 = r := by
  have hC := hI.2.1
  have hV := hI.2.2.1
  unfold f_X10_fail
  refine gLoop2_eq (fun m f v => (0 ≤ v.toInt ∧ v.toInt ≤ 5) ∧ (m : Int) = 5 - v.toInt ∧ ((f = 1 ∧ isC τ x ∧ ∀ c : Nat, (c : Int) < v.toInt → ¬ endsOne τ x c) ∨ (f = 0 ∧ (¬ isC τ x ∨ ∃ c : Nat, c < 5 ∧ endsOne τ x c)))) ?_ N 5 _ 0 hN ⟨by rw [tl0]; omega, by rw [tl0]; rfl, ?_⟩
  · intro m f v self ⟨hv, hm, hf⟩ ih
    have e1 : v.toInt < 5 → (v + 1).toInt = v.toInt + 1 := fun _ => by rw [tadd (by rw [tl1]; omega), tl1]
    simp only [gJoin0, gJoin1]
    rcases hf with ⟨rfl, hx, hE⟩ | ⟨rfl, hz⟩
    · by_cases h5 : 5 ≤ v
      · rw [if_pos h5]
        rw [tle, tl5] at h5
        have hx1 := hx.1
        have hx2 := hx.2
        have hc2 := hC.2.1
        rw [ctl_yes hC hx, asked2_2 one_ne one_ne]
        rw [if_neg (show ¬ ((1 : Int32), g_sf τ 6 0).1 = 0 from one_ne), if_neg (by rw [tlt, tl0, tcl]; omega), if_neg (by rw [tlt, tl0, tcl]; omega)]
        exact h1 hx (fun ⟨c, hc, g⟩ => hE c (by omega) g)
      · rw [if_neg h5]
        rw [tle, tl5] at h5
        have hk : isK v := ⟨hv.1, by omega⟩
        have hl := hV.1 v.toInt.toNat
        have e6 := mul6 hk
        have eL : g_ga τ 5 v = τ.1 5 v.toInt.toNat := rfl
        have e61 : 6 * v + τ.1 5 v.toInt.toNat - 1 = 6 * v + (τ.1 5 v.toInt.toNat - 1) := by
          rw [Int32.sub_eq_add_neg, Int32.sub_eq_add_neg, Int32.add_assoc]
        have es : (τ.1 5 v.toInt.toNat - 1).toInt = (τ.1 5 v.toInt.toNat).toInt - 1 := by rw [tsub (by rw [tl1]; omega), tl1]
        rw [if_neg one_ne, if_neg (by rw [tlt, tl0, tcl]; omega), eL]
        have go : ¬ endsOne τ x v.toInt.toNat → self 1 (v + 1) = r := fun hn => ih (m - 1) 1 (v + 1) (by omega) ⟨by rw [e1 (by omega)]; omega, by rw [e1 (by omega)]; omega, Or.inl ⟨rfl, hx, fun d hd => by
          rw [e1 (by omega)] at hd
          by_cases hd2 : d = v.toInt.toNat
          · rw [hd2]; exact hn
          · exact hE d (by omega)⟩⟩
        have stop : endsOne τ x v.toInt.toNat → self 0 (v + 1) = r := fun hn => ih (m - 1) 0 (v + 1) (by omega) ⟨by rw [e1 (by omega)]; omega, by rw [e1 (by omega)]; omega, Or.inr ⟨rfl, Or.inr ⟨_, by omega, hn⟩⟩⟩
        by_cases z : τ.1 5 v.toInt.toNat = 0
        · rw [if_pos z]
          refine go (fun g => ?_)
          have := g.1
          rw [z, tl0] at this
          omega
        · have z2 : 0 < (τ.1 5 v.toInt.toNat).toInt := by
            rw [teq, tl0] at z
            omega
          have a1 : g_ga τ 4 (6 * v) = τ.1 4 (6 * v.toInt.toNat) := ga_at (by rw [e6]; omega)
          have el : (6 * v + (τ.1 5 v.toInt.toNat - 1)).toInt = 6 * v.toInt + ((τ.1 5 v.toInt.toNat).toInt - 1) := by rw [ent_in hk (by rw [es]; omega) (by rw [es]; omega), es]
          have a2 : g_ga τ 4 (6 * v + (τ.1 5 v.toInt.toNat - 1)) = τ.1 4 (6 * v.toInt.toNat + ((τ.1 5 v.toInt.toNat).toInt.toNat - 1)) := ga_at (by rw [el]; omega)
          rw [if_neg z, if_neg (by rw [tlt, tl0, tcl, e6]; omega), a1]
          by_cases c1 : τ.1 4 (6 * v.toInt.toNat) = x
          · rw [if_pos c1]
            exact stop ⟨z2, Or.inl c1⟩
          · rw [if_neg c1, if_neg (by rw [tlt, tl0, tcl]; omega), e61, if_neg (by rw [tlt, tl0, tcl, el]; omega), a2]
            by_cases c2 : τ.1 4 (6 * v.toInt.toNat + ((τ.1 5 v.toInt.toNat).toInt.toNat - 1)) = x
            · rw [if_pos c2]
              exact stop ⟨z2, Or.inr c2⟩
            · rw [if_neg c2]
              exact go (fun g => g.2.elim c1 c2)
    · by_cases h5 : 5 ≤ v
      · rw [if_pos h5]
        have q : (f_X10_asked_ τ (f_X10_isControl τ x) 0).1 = 0 := by
          by_cases hx : isC τ x
          · rw [ctl_yes hC hx, asked2_1 one_ne]
          · rw [ctl_no hC hx, asked2_0]
        rw [if_pos q]
        exact h0 hz
      · rw [if_neg h5, if_pos rfl]
        rw [tle, tl5] at h5
        exact ih (m - 1) 0 (v + 1) (by omega) ⟨by rw [e1 (by omega)]; omega, by rw [e1 (by omega)]; omega, Or.inr ⟨rfl, hz⟩⟩
  · by_cases hx : isC τ x
    · exact Or.inl ⟨ctl_yes hC hx, hx, fun c hc => by rw [tl0] at hc; omega⟩
    · exact Or.inr ⟨ctl_no hC hx, Or.inl hx⟩
theorem rel_fail {σ τ : gSt} (hR : Rel σ τ) {i x : Int32} (hx : x = 0 ∨ x = 1) : Rel (g_pa σ 9 i x) (g_pa τ 3 i x) := by
  obtain ⟨⟨⟨a1, a2, a3, a4, a5, a6, a7, a8, a9, a10, a11⟩, s2, b⟩, iT, iC, iV, iE, iS, iP⟩ := hR
  refine ⟨⟨⟨a1, a2, a3, ?_, a5, a6, a7, a8, a9, a10, a11⟩, s2, b⟩, iT, ⟨iC.1, iC.2.1, iC.2.2.1, upd_all (P := fun v => v = 0 ∨ v = 1) iC.2.2.2 hx⟩, iV, iE, iS, iP⟩
  show upd (σ.1 9) _ x = upd (τ.1 3) _ x
  rw [a4]
theorem owe_fail {N : Nat} (hN : 5 < N) : Owe_fail N := by
  intro σ τ x x2 hR hx2
  have hC := hR.2.2.1
  have hc2 := hC.2.1
  unfold f_X9_fail
  simp only [gJoin1]
  by_cases hx : isC τ x
  · have hx1 := hx.1
    have hx3 := hx.2
    simp only [needC_yes hR.1 hx, if_true]
    by_cases hE : ∃ c : Nat, c < 5 ∧ endsOne τ x c
    · rw [begins_yes hR hN hx.1 hE, Option.bind_some, if_neg one_ne, state0, if_neg (by decide)]
      rw [fail_m (r := some (0, g_sf τ 6 2)) hR.2 hN (fun _ => by rw [ctl_yes hC hx, asked2_1 one_ne]) (fun _ h => absurd hE h)]
      exact Agr.no hR (by decide) (Or.inr (Or.inr rfl)) rfl
    · rw [begins_no hR hN hx.1 hE, Option.bind_some, if_pos rfl, state1, if_pos rfl]
      rw [fail_m (r := some ((g_ga (g_sf τ 6 0) 3 x) &&& 1, g_pa (g_sf τ 6 0) 3 x (x2 &&& 1))) hR.2 hN (fun h => h.elim (fun h => absurd hx h) (fun h => absurd h hE)) (fun _ _ => rfl)]
      have e1 : x2 &&& 1 = x2 := by rcases hx2 with rfl | rfl <;> rfl
      have e2 : f_X1_replaceFailed σ x x2 = ((f_X1_hasFailed σ x) &&& 1, g_pa σ 9 x x2) := by
        unfold f_X1_replaceFailed
        simp only [gJoin1]
        rcases hx2 with rfl | rfl
        · rw [if_pos rfl, gput_pa hx1 (by rw [len30.2.2.2.1]; omega)]
        · rw [if_neg one_ne, gput_pa hx1 (by rw [len30.2.2.2.1]; omega)]
      rw [e1, e2]
      refine Agr.yes (rel_fail hR.six hx2) (Or.inl rfl) rfl ?_
      have ev : g_ga (g_sf τ 6 0) 3 x = g_ga σ 9 x := by
        unfold g_ga
        rw [hR.1.1.2.2.2.1]
        rfl
      rw [ev]
      have hz : g_ga σ 9 x = 0 ∨ g_ga σ 9 x = 1 := by
        unfold g_ga
        rw [hR.1.1.2.2.2.1]
        exact hC.2.2.2 _
      unfold vZ f_X1_hasFailed
      dsimp only
      rw [gget_ga hx1 (by rw [len30.2.2.2.1]; omega)]
      rcases hz with h | h <;> rw [h] <;> decide
  · simp only [needC_no hR.1 hx, if_neg onen]
    rw [fail_m (r := some (0, g_sf τ 6 1)) hR.2 hN (fun _ => by rw [ctl_no hC hx, asked2_0]) (fun h => absurd h hx)]
    exact Agr.no hR (by decide) (Or.inr (Or.inl rfl)) rfl
