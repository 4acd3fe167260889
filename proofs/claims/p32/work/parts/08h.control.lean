/-! ===== pure: control ===== -/
def stands (τ : gSt) (q : Int32) : Prop := ∃ c : Nat, (c : Int) < (τ.2 2).toInt ∧ τ.1 2 c = q
theorem stands_eq {σ τ : gSt} {N : Nat} {q : Int32} {r : Option Int32} (hR : Rel σ τ) (hN : 12 < N) (h0 : ¬ stands τ q → some 0 = r) (h1 : stands τ q → some 1 = r) : f_X1_standsIn N σ q = r := by
  have hC := hR.2.2.1
  have hc1 := hC.1
  have hc2 := hC.2.1
  have hc : σ.2 4 = τ.2 2 := hR.1.2.2.2.2.1
  unfold f_X1_standsIn
  refine gLoop1_eq (fun m v => (0 ≤ v.toInt ∧ v.toInt ≤ 12) ∧ (m : Int) = 12 - v.toInt ∧ ∀ c : Nat, (c : Int) < v.toInt → τ.1 2 c ≠ q) ?_ N 12 0 hN ⟨by rw [tl0]; omega, by rw [tl0]; rfl, fun c hc => by rw [tl0] at hc; omega⟩
  intro m v self ⟨hv, hm, hI⟩ ih
  rw [hc]
  by_cases c0 : τ.2 2 ≤ v
  · rw [if_pos c0]
    rw [tle] at c0
    exact h0 (fun ⟨j, hj, e⟩ => hI j (by omega) e)
  · rw [if_neg c0]
    rw [tle] at c0
    have eg : gget σ 8 v = τ.1 2 v.toInt.toNat := by
      rw [gget_in hv.1 (by rw [len30.2.2.1]; omega), hR.1.1.2.2.1]
    rw [eg]
    by_cases c1 : τ.1 2 v.toInt.toNat = q
    · rw [if_pos c1]
      exact h1 ⟨v.toInt.toNat, by omega, c1⟩
    · rw [if_neg c1]
      have e1 := inc1 (v := v) (n := 12) (by omega) (by omega)
      refine ih (m - 1) (v + 1) (by omega) ⟨by rw [e1]; omega, by rw [e1]; omega, fun d hd => ?_⟩
      rw [e1] at hd
      by_cases hd2 : d = v.toInt.toNat
      · rw [hd2]; exact c1
      · exact hI d (by omega)
/-- the reference's control -/
theorem control_m {τ : gSt} {N : Nat} {x y : Int32} {r : Option (Int32 × gSt)} (hI : Inv τ) (hN : 12 < N)
    (h0 : ¬ onMap τ x y → some (0, g_sf τ 6 1) = r)
    (h1 : onMap τ x y → ((τ.2 2).toInt = 12 ∨ τ.1 1 (12 * y + x).toInt.toNat = 4 ∨ stands τ (12 * y + x)) → some (0, g_sf τ 6 2) = r)
    (h2 : onMap τ x y → (τ.2 2).toInt < 12 → τ.1 1 (12 * y + x).toInt.toNat ≠ 4 → ¬ stands τ (12 * y + x) → some (τ.2 2 + 1 - 1, g_sf (g_pa (g_sf τ 6 0) 2 (τ.2 2) (12 * y + x)) 2 (τ.2 2 + 1)) = r) : f_X10_control N τ x y = r := by
  have hT := hI.1
  have hC := hI.2.1
  have hc1 := hC.1
  have hc2 := hC.2.1
  have lp : ∀ (f0 : Int32), f0 = 0 ∨ f0 = 1 → ∀ b : (Int32 → Int32 → Option (Int32 × gSt)) → Int32 → Int32 → Option (Int32 × gSt), (∀ self (v : Int32), (f0 = 0 ∨ stands τ (12 * y + x)) → τ.2 2 ≤ v → b self 0 v = r) → (∀ self (v : Int32), f0 = 1 → (∀ c : Nat, (c : Int) < v.toInt → τ.1 2 c ≠ 12 * y + x) → τ.2 2 ≤ v → b self 1 v = r) → (∀ self (v : Int32), 0 ≤ v.toInt → v.toInt < 12 → ¬ τ.2 2 ≤ v → b self 0 v = self 0 (v + 1)) → (∀ self (v : Int32), 0 ≤ v.toInt → v.toInt < 12 → ¬ τ.2 2 ≤ v → b self 1 v = self (if τ.1 2 v.toInt.toNat = 12 * y + x then 0 else 1) (v + 1)) → gLoop2 b N f0 0 = r := by
    intro f0 hf0 b B0 B1 B2 B3
    refine gLoop2_eq (fun m f v => (0 ≤ v.toInt ∧ v.toInt ≤ 12) ∧ (m : Int) = 12 - v.toInt ∧ ((f = 1 ∧ f0 = 1 ∧ ∀ c : Nat, (c : Int) < v.toInt → τ.1 2 c ≠ 12 * y + x) ∨ (f = 0 ∧ (f0 = 0 ∨ stands τ (12 * y + x))))) ?_ N 12 f0 0 hN ⟨by rw [tl0]; omega, by rw [tl0]; rfl, ?_⟩
    · intro m f v self ⟨hv, hm, hf⟩ ih
      by_cases c0 : τ.2 2 ≤ v
      · rcases hf with ⟨rfl, hx0, hE⟩ | ⟨rfl, hz⟩
        · exact B1 self v hx0 hE c0
        · exact B0 self v hz c0
      · have c0' := c0
        rw [tle] at c0'
        have e1 := inc1 (v := v) (n := 12) (by omega) (by omega)
        rcases hf with ⟨rfl, hx0, hE⟩ | ⟨rfl, hz⟩
        · rw [B3 self v hv.1 (by omega) c0]
          refine ih (m - 1) _ (v + 1) (by omega) ⟨by rw [e1]; omega, by rw [e1]; omega, ?_⟩
          rw [e1]
          by_cases c1 : τ.1 2 v.toInt.toNat = 12 * y + x
          · rw [if_pos c1]
            exact Or.inr ⟨rfl, Or.inr ⟨v.toInt.toNat, by omega, c1⟩⟩
          · rw [if_neg c1]
            refine Or.inl ⟨rfl, hx0, fun d hd => ?_⟩
            by_cases hd2 : d = v.toInt.toNat
            · rw [hd2]; exact c1
            · exact hE d (by omega)
        · rw [B2 self v hv.1 (by omega) c0]
          refine ih (m - 1) _ (v + 1) (by omega) ⟨by rw [e1]; omega, by rw [e1]; omega, Or.inr ⟨rfl, hz⟩⟩
    · rcases hf0 with rfl | rfl
      · exact Or.inr ⟨rfl, Or.inl rfl⟩
      · exact Or.inl ⟨rfl, rfl, fun c hc => by rw [tl0] at hc; omega⟩
  unfold f_X10_control
  simp only [gJoin0, gJoin1]
  have st0 : ∀ v : Int32, 0 ≤ v.toInt → v.toInt < 12 → ¬ (v < 0 ∨ 12 ≤ v.toNatClampNeg) := fun v h1 h2 => by rw [tlt, tl0, tcl]; omega
  by_cases hm : onMap τ x y
  · have hn := num_in hT hm
    have eG : g_ga τ 1 (12 * y + x) = τ.1 1 (12 * y + x).toInt.toNat := rfl
    rw [cell_yes hT hm, if_neg one_ne, if_neg (c := 12 * y + x < 0 ∨ 144 ≤ (12 * y + x).toNatClampNeg) (by rw [tlt, tl0, tcl]; omega), eG]
    have no : (τ.2 2).toInt = 12 ∨ τ.1 1 (12 * y + x).toInt.toNat = 4 → ∀ b : (Int32 → Int32 → Option (Int32 × gSt)) → Int32 → Int32 → Option (Int32 × gSt), (∀ self (v : Int32), τ.2 2 ≤ v → b self 0 v = some (0, g_sf τ 6 2)) → (∀ self (v : Int32), ¬ τ.2 2 ≤ v → b self 0 v = self 0 (v + 1)) → gLoop2 b N 0 0 = r := by
      intro hz b B0 B2
      refine gLoop2_eq (fun m f v => (0 ≤ v.toInt ∧ v.toInt ≤ 12) ∧ (m : Int) = 12 - v.toInt ∧ f = 0) ?_ N 12 0 0 hN ⟨by rw [tl0]; omega, by rw [tl0]; rfl, rfl⟩
      intro m f v self ⟨hv, hm2, hf⟩ ih
      subst hf
      by_cases c0 : τ.2 2 ≤ v
      · rw [B0 self v c0]
        exact h1 hm (hz.elim Or.inl (fun h => Or.inr (Or.inl h)))
      · rw [B2 self v c0]
        rw [tle] at c0
        have e1 := inc1 (v := v) (n := 12) (by omega) (by omega)
        exact ih (m - 1) 0 (v + 1) (by omega) ⟨by rw [e1]; omega, by rw [e1]; omega, rfl⟩
    by_cases c12 : 12 ≤ τ.2 2
    · rw [if_pos c12]
      exact no (Or.inl (by rw [tle, tl12] at c12; omega)) _ (fun self v hv => by simp only [if_pos hv, asked2_1 one_ne, if_true]) (fun self v hv => by simp only [if_neg hv, if_true])
    · rw [if_neg c12]
      rw [tle, tl12] at c12
      by_cases c4 : τ.1 1 (12 * y + x).toInt.toNat = 4
      · rw [if_pos c4]
        exact no (Or.inr c4) _ (fun self v hv => by simp only [if_pos hv, asked2_1 one_ne, if_true]) (fun self v hv => by simp only [if_neg hv, if_true])
      · rw [if_neg c4]
        refine lp 1 (Or.inr rfl) _ (fun self v h hv => ?_) (fun self v _ h hv => ?_) (fun self v _ _ hv => ?_) (fun self v v0 v1 hv => ?_)
        · simp only [if_pos hv, asked2_1 one_ne, if_true]
          exact h1 hm (Or.inr (Or.inr (h.elim (fun h => absurd h one_ne) id)))
        · simp only [if_pos hv, asked2_2 one_ne one_ne, if_neg one_ne]
          have E3 : (g_sf τ 6 0).2 2 = τ.2 2 := rfl
          have E4 : (g_pa (g_sf τ 6 0) 2 (τ.2 2) (12 * y + x)).2 2 = τ.2 2 := rfl
          simp only [E3, E4]
          rw [if_neg (st0 _ hc1 (by omega))]
          rw [tle] at hv
          exact h2 hm (by omega) c4 (fun ⟨c, hc, e⟩ => h c (by omega) e)
        · simp only [if_neg hv, if_true]
        · have eg : g_ga τ 2 v = τ.1 2 v.toInt.toNat := rfl
          rw [if_neg hv, if_neg one_ne, if_neg (st0 v v0 v1), eg]
          by_cases c1 : τ.1 2 v.toInt.toNat = 12 * y + x
          · rw [if_pos c1, if_pos c1]
          · rw [if_neg c1, if_neg c1]
  · rw [cell_no hT hm, if_pos rfl]
    refine gLoop2_eq (fun m f v => (0 ≤ v.toInt ∧ v.toInt ≤ 12) ∧ (m : Int) = 12 - v.toInt ∧ f = 0) ?_ N 12 0 0 hN ⟨by rw [tl0]; omega, by rw [tl0]; rfl, rfl⟩
    intro m f v self ⟨hv, hm2, hf⟩ ih
    subst hf
    by_cases c0 : τ.2 2 ≤ v
    · simp only [if_pos c0, asked2_0, if_true]
      exact h0 hm
    · simp only [if_neg c0, if_true]
      rw [tle] at c0
      have e1 := inc1 (v := v) (n := 12) (by omega) (by omega)
      exact ih (m - 1) 0 (v + 1) (by omega) ⟨by rw [e1]; omega, by rw [e1]; omega, rfl⟩
theorem rel_control {σ τ : gSt} (hR : Rel σ τ) {x y : Int32} (hm : onMap τ x y) (hc : (τ.2 2).toInt < 12) : Rel (g_sf (g_pa σ 8 (τ.2 2) (12 * y + x)) 4 (τ.2 2 + 1)) (g_sf (g_pa τ 2 (τ.2 2) (12 * y + x)) 2 (τ.2 2 + 1)) := by
  obtain ⟨⟨⟨a1, a2, a3, a4, a5, a6, a7, a8, a9, a10, a11⟩, s2, b1, b2, b3, b4⟩, iT, iC, iV, iE, iS, iP⟩ := hR
  have hn := num_in iT hm
  have e1 := inc1 (v := τ.2 2) (n := 12) hc (by omega)
  have hm1 := hm.1
  have hm2 := hm.2
  have hc0 := iC.1
  have hT := iT
  obtain ⟨w1, w2, w3, w4, -⟩ := hT
  have F2 : (g_sf (g_pa τ 2 (τ.2 2) (12 * y + x)) 2 (τ.2 2 + 1)).2 2 = τ.2 2 + 1 := rfl
  have G2 : (g_sf (g_pa τ 2 (τ.2 2) (12 * y + x)) 2 (τ.2 2 + 1)).1 2 = upd (τ.1 2) (τ.2 2).toInt.toNat (12 * y + x) := rfl
  refine ⟨⟨⟨a1, a2, ?_, a4, a5, a6, a7, a8, a9, a10, a11⟩, s2, b1, b2, rfl, b4⟩, iT, ⟨?_, ?_, ?_, iC.2.2.2⟩, ⟨iV.1, fun c j h1 h2 => ?_, iV.2.2⟩, iE, iS, ⟨iP.1, iP.2.1, fun i j h1 h2 => ?_, iP.2.2.2⟩⟩
  · show upd (σ.1 8) _ _ = upd (τ.1 2) _ _
    rw [a3]
  · rw [F2, e1]; omega
  · rw [F2, e1]; omega
  · intro k hk
    rw [F2, e1] at hk
    rw [G2, upd_at]
    by_cases hk2 : k = (τ.2 2).toInt.toNat
    · rw [if_pos hk2, hn.1]
      show _ ∧ _ < (τ.2 0).toInt ∧ _ < (τ.2 1).toInt
      omega
    · rw [if_neg hk2]
      exact iC.2.2.1 k (by omega)
  · rw [F2, e1]
    have := iV.2.1 c j h1 h2
    exact ⟨this.1, Int.lt_trans this.2 (by omega)⟩
  · rw [F2, e1]
    have := iP.2.2.1 i j h1 h2
    exact ⟨this.1, Int.lt_trans this.2.1 (by omega), this.2.2⟩
theorem owe_control {N : Nat} (hN : 12 < N) : Owe_control N := by
  intro σ τ x y hR
  have hT := hR.2.1
  have hC := hR.2.2.1
  have hc1 := hC.1
  have hc2 := hC.2.1
  have hcn : σ.2 4 = τ.2 2 := hR.1.2.2.2.2.1
  unfold f_X9_control
  simp only [gJoin0, gJoin1, f_X1_count, hcn, num_eq]
  by_cases hm : onMap τ x y
  · have hn := num_in hT hm
    have no3 : ((τ.2 2).toInt = 12 ∨ τ.1 1 (12 * y + x).toInt.toNat = 4 ∨ stands τ (12 * y + x)) → f_X10_control N τ x y = some (0, g_sf τ 6 2) := fun h => control_m hR.2 hN (fun g => absurd hm g) (fun _ _ => rfl) (fun _ g1 g2 g3 => by rcases h with h | h | h <;> first | omega | exact absurd h g2 | exact absurd h g3)
    rw [needCell_yes hR.1 hm, if_pos rfl]
    by_cases c12 : 12 ≤ τ.2 2
    · rw [if_pos c12, state0, if_neg (by decide), no3 (Or.inl (by rw [tle, tl12] at c12; omega))]
      exact Agr.no hR (by decide) (Or.inr (Or.inr rfl)) rfl
    · rw [if_neg c12, state1, if_pos rfl]
      rw [tle, tl12] at c12
      by_cases hs : stands τ (12 * y + x)
      · rw [stands_eq (r := some 1) hR hN (fun h => absurd hs h) (fun _ => rfl), Option.bind_some, if_neg one_ne, state0, if_neg (by decide), no3 (Or.inr (Or.inr hs))]
        exact Agr.no hR (by decide) (Or.inr (Or.inr rfl)) rfl
      · have eF : f_X8_isForbidden σ (12 * y + x) = if τ.1 1 (12 * y + x).toInt.toNat = 4 then 1 else 0 := by
          unfold f_X8_isForbidden
          rw [gget_in (by omega) (by rw [len144.2]; omega), hR.1.1.2.1]
        rw [stands_eq (r := some 0) hR hN (fun _ => rfl) (fun h => absurd h hs), Option.bind_some, if_pos rfl, eF]
        by_cases c4 : τ.1 1 (12 * y + x).toInt.toNat = 4
        · rw [if_pos c4, if_neg one_ne, state0, if_neg (by decide), no3 (Or.inr (Or.inl c4))]
          exact Agr.no hR (by decide) (Or.inr (Or.inr rfl)) rfl
        · rw [if_neg c4, if_pos rfl, if_pos rfl]
          rw [control_m (r := some (τ.2 2 + 1 - 1, g_sf (g_pa (g_sf τ 6 0) 2 (τ.2 2) (12 * y + x)) 2 (τ.2 2 + 1))) hR.2 hN (fun g => absurd hm g) (fun _ g => by rcases g with h | h | h <;> first | omega | exact absurd h c4 | exact absurd h hs) (fun _ _ _ _ => rfl)]
          have eA : f_X1_add σ (12 * y + x) = (τ.2 2 + 1 - 1, g_sf (g_pa σ 8 (τ.2 2) (12 * y + x)) 4 (τ.2 2 + 1)) := by
            unfold f_X1_add
            rw [hcn, gput_pa hc1 (by rw [len30.2.2.1]; omega)]
            have q : (g_pa σ 8 (τ.2 2) (12 * y + x)).2 4 = τ.2 2 := hcn
            rw [q]
            rfl
          rw [eA]
          exact Agr.yes (rel_control (Rel.six (x := 0) hR) hm (by show (τ.2 2).toInt < 12; omega)) (Or.inl rfl) rfl rfl
  · rw [needCell_no hR.1 hm, if_neg onen, control_m (r := some (0, g_sf τ 6 1)) hR.2 hN (fun _ => rfl) (fun g _ => absurd g hm) (fun g _ _ _ => absurd g hm)]
    exact Agr.no hR (by decide) (Or.inr (Or.inl rfl)) rfl
