/-! ===== pure: visit ===== -/
theorem inc1 {v : Int32} {n : Int} (h : v.toInt < n) (hn : n ≤ 2147483647) : (v + 1).toInt = v.toInt + 1 := by
  have := tR v
  rw [tadd (by rw [tl1]; omega), tl1]
def visits (τ : gSt) (c : Nat) (x : Int32) : Prop := ∃ j : Nat, (j : Int) < (τ.1 5 c).toInt ∧ τ.1 4 (6 * c + j) = x
theorem contains_eq {σ τ : gSt} {N : Nat} {k x : Int32} {r : Option Int32} (hR : Rel σ τ) (hN : 6 < N) (hk : isK k) (h0 : ¬ visits τ k.toInt.toNat x → some 0 = r) (h1 : visits τ k.toInt.toNat x → some 1 = r) : f_X2_contains N σ k x = r := by
  have hl := hR.2.2.2.1.1 k.toInt.toNat
  have hk1 := hk.1
  have hk2 := hk.2
  unfold f_X2_contains
  refine gLoop1_eq (fun m v => (0 ≤ v.toInt ∧ v.toInt ≤ 6) ∧ (m : Int) = 6 - v.toInt ∧ ∀ c : Nat, (c : Int) < v.toInt → τ.1 4 (6 * k.toInt.toNat + c) ≠ x) ?_ N 6 0 hN ⟨by rw [tl0]; omega, by rw [tl0]; rfl, fun c hc => by rw [tl0] at hc; omega⟩
  intro m v self ⟨hv, hm, hI⟩ ih
  rw [clen hR.1 hk]
  by_cases c0 : τ.1 5 k.toInt.toNat ≤ v
  · rw [if_pos c0]
    rw [tle] at c0
    exact h0 (fun ⟨j, hj, e⟩ => hI j (by omega) e)
  · rw [if_neg c0]
    rw [tle] at c0
    rw [cat_in hR hk hv.1 (by omega), ga_at (n := 6 * k.toInt.toNat + v.toInt.toNat) (by rw [ent_in hk hv.1 (by omega)]; omega)]
    by_cases c1 : τ.1 4 (6 * k.toInt.toNat + v.toInt.toNat) = x
    · rw [if_pos c1]
      exact h1 ⟨v.toInt.toNat, by omega, c1⟩
    · rw [if_neg c1]
      have e1 := inc1 (v := v) (n := 6) (by omega) (by omega)
      refine ih (m - 1) (v + 1) (by omega) ⟨by rw [e1]; omega, by rw [e1]; omega, fun d hd => ?_⟩
      rw [e1] at hd
      by_cases hd2 : d = v.toInt.toNat
      · rw [hd2]; exact c1
      · exact hI d (by omega)
/-- the reference's visit -/
theorem visit_m {τ : gSt} {N : Nat} {k x : Int32} {r : Option (Int32 × gSt)} (hI : Inv τ) (hN : 6 < N)
    (h0 : ¬ (isK k ∧ isC τ x) → some (0, g_sf τ 6 1) = r)
    (h1 : isK k → isC τ x → ((τ.1 5 k.toInt.toNat).toInt = 6 ∨ τ.2 4 ≠ 0 ∨ visits τ k.toInt.toNat x) → some (0, g_sf τ 6 2) = r)
    (h2 : isK k → isC τ x → (τ.1 5 k.toInt.toNat).toInt < 6 → τ.2 4 = 0 → ¬ visits τ k.toInt.toNat x → some (τ.1 5 k.toInt.toNat + 1, g_pa (g_pa (g_sf τ 6 0) 4 (6 * k + τ.1 5 k.toInt.toNat) x) 5 k (τ.1 5 k.toInt.toNat + 1)) = r) : f_X10_visit N τ k x = r := by
  have hC := hI.2.1
  have hV := hI.2.2.1
  have hl := hV.1 k.toInt.toNat
  unfold f_X10_visit
  simp only [gJoin0, gJoin1]
  by_cases hkc : isK k ∧ isC τ x
  · obtain ⟨hk, hx⟩ := hkc
    have hk1 := hk.1
    have hk2 := hk.2
    have gk : ¬ (k < 0 ∨ 5 ≤ k.toNatClampNeg) := by rw [tlt, tl0, tcl]; omega
    have eL : g_ga τ 5 k = τ.1 5 k.toInt.toNat := rfl
    rw [klass_yes hk, ctl_yes hC hx, if_neg one_ne, if_neg one_ne, if_neg one_ne, if_neg gk, eL]
    have lp : ∀ f0 : Int32, f0 = 0 ∨ f0 = 1 → ((f0 = 0 ∨ visits τ k.toInt.toNat x) → some (0, g_sf τ 6 2) = r) → ((f0 = 1 ∧ ¬ visits τ k.toInt.toNat x) → (τ.1 5 k.toInt.toNat).toInt < 6 ∧ some (τ.1 5 k.toInt.toNat + 1, g_pa (g_pa (g_sf τ 6 0) 4 (6 * k + τ.1 5 k.toInt.toNat) x) 5 k (τ.1 5 k.toInt.toNat + 1)) = r) → gLoop2 (fun (self53 : Int32 → Int32 → Option (Int32 × gSt)) v4_53 v5_53 =>
            if v4_53 = 0 then
              if (f_X10_asked_ τ 1 v4_53).1 = 0 then
                  some (0, (f_X10_asked_ τ 1 v4_53).2)
                else
                  if k < 0 ∨ 5 ≤ k.toNatClampNeg then none else
                  if (6 * k) + (g_ga ((f_X10_asked_ τ 1 v4_53).2) 5 k) < 0 ∨ 30 ≤ ((6 * k) + (g_ga ((f_X10_asked_ τ 1 v4_53).2) 5 k)).toNatClampNeg then none else
                  if k < 0 ∨ 5 ≤ k.toNatClampNeg then none else
                  if k < 0 ∨ 5 ≤ k.toNatClampNeg then none else
                  if k < 0 ∨ 5 ≤ k.toNatClampNeg then none else
                  some (g_ga (g_pa (g_pa ((f_X10_asked_ τ 1 v4_53).2) 4 ((6 * k) + (g_ga ((f_X10_asked_ τ 1 v4_53).2) 5 k)) x) 5 k ((g_ga (g_pa ((f_X10_asked_ τ 1 v4_53).2) 4 ((6 * k) + (g_ga ((f_X10_asked_ τ 1 v4_53).2) 5 k)) x) 5 k) + 1)) 5 k, g_pa (g_pa ((f_X10_asked_ τ 1 v4_53).2) 4 ((6 * k) + (g_ga ((f_X10_asked_ τ 1 v4_53).2) 5 k)) x) 5 k ((g_ga (g_pa ((f_X10_asked_ τ 1 v4_53).2) 4 ((6 * k) + (g_ga ((f_X10_asked_ τ 1 v4_53).2) 5 k)) x) 5 k) + 1))
            else
              if k < 0 ∨ 5 ≤ k.toNatClampNeg then none else
              if g_ga τ 5 k ≤ v5_53 then
                if (f_X10_asked_ τ 1 v4_53).1 = 0 then
                  some (0, (f_X10_asked_ τ 1 v4_53).2)
                else
                  if k < 0 ∨ 5 ≤ k.toNatClampNeg then none else
                  if (6 * k) + (g_ga ((f_X10_asked_ τ 1 v4_53).2) 5 k) < 0 ∨ 30 ≤ ((6 * k) + (g_ga ((f_X10_asked_ τ 1 v4_53).2) 5 k)).toNatClampNeg then none else
                  if k < 0 ∨ 5 ≤ k.toNatClampNeg then none else
                  if k < 0 ∨ 5 ≤ k.toNatClampNeg then none else
                  if k < 0 ∨ 5 ≤ k.toNatClampNeg then none else
                  some (g_ga (g_pa (g_pa ((f_X10_asked_ τ 1 v4_53).2) 4 ((6 * k) + (g_ga ((f_X10_asked_ τ 1 v4_53).2) 5 k)) x) 5 k ((g_ga (g_pa ((f_X10_asked_ τ 1 v4_53).2) 4 ((6 * k) + (g_ga ((f_X10_asked_ τ 1 v4_53).2) 5 k)) x) 5 k) + 1)) 5 k, g_pa (g_pa ((f_X10_asked_ τ 1 v4_53).2) 4 ((6 * k) + (g_ga ((f_X10_asked_ τ 1 v4_53).2) 5 k)) x) 5 k ((g_ga (g_pa ((f_X10_asked_ τ 1 v4_53).2) 4 ((6 * k) + (g_ga ((f_X10_asked_ τ 1 v4_53).2) 5 k)) x) 5 k) + 1))
              else
                if (6 * k) + v5_53 < 0 ∨ 30 ≤ ((6 * k) + v5_53).toNatClampNeg then none else
                if g_ga τ 4 ((6 * k) + v5_53) = x then
                  self53 0 (v5_53 + 1)
                else
                  self53 1 (v5_53 + 1)) N f0 0 = r := by
      intro f0 hf0 g0 g1
      refine gLoop2_eq (fun m f v => (0 ≤ v.toInt ∧ v.toInt ≤ 6) ∧ (m : Int) = 6 - v.toInt ∧ ((f = 1 ∧ f0 = 1 ∧ ∀ c : Nat, (c : Int) < v.toInt → τ.1 4 (6 * k.toInt.toNat + c) ≠ x) ∨ (f = 0 ∧ (f0 = 0 ∨ visits τ k.toInt.toNat x)))) ?_ N 6 f0 0 hN ⟨by rw [tl0]; omega, by rw [tl0]; rfl, ?_⟩
      · intro m f v self ⟨hv, hm, hf⟩ ih
        rcases hf with ⟨rfl, hx0, hE⟩ | ⟨rfl, hz⟩
        · rw [if_neg one_ne, if_neg gk, eL]
          by_cases c0 : τ.1 5 k.toInt.toNat ≤ v
          · rw [if_pos c0]
            rw [tle] at c0
            obtain ⟨l6, g1⟩ := g1 ⟨hx0, fun ⟨j, hj, e⟩ => hE j (by omega) e⟩
            have e := ent_in (j := τ.1 5 k.toInt.toNat) hk hl.1 l6
            have eL1 : g_ga (g_sf τ 6 0) 5 k = τ.1 5 k.toInt.toNat := rfl
            have eL2 : g_ga (g_pa (g_sf τ 6 0) 4 (6 * k + τ.1 5 k.toInt.toNat) x) 5 k = τ.1 5 k.toInt.toNat := rfl
            simp only [asked2_2 one_ne one_ne, if_neg one_ne, if_neg gk, eL1, eL2]
            rw [if_neg (by rw [tlt, tl0, tcl, e]; omega)]
            have eL3 : g_ga (g_pa (g_pa (g_sf τ 6 0) 4 (6 * k + τ.1 5 k.toInt.toNat) x) 5 k (τ.1 5 k.toInt.toNat + 1)) 5 k = τ.1 5 k.toInt.toNat + 1 := by
              rw [ga_eq, pa_1, if_pos rfl, upd_at, if_pos rfl]
            rw [eL3]
            exact g1
          · rw [if_neg c0]
            rw [tle] at c0
            have e := ent_in (j := v) hk hv.1 (by omega)
            rw [if_neg (by rw [tlt, tl0, tcl, e]; omega), ga_at (n := 6 * k.toInt.toNat + v.toInt.toNat) (by rw [e]; omega)]
            have e1 := inc1 (v := v) (n := 6) (by omega) (by omega)
            by_cases c1 : τ.1 4 (6 * k.toInt.toNat + v.toInt.toNat) = x
            · rw [if_pos c1]
              exact ih (m - 1) 0 (v + 1) (by omega) ⟨by rw [e1]; omega, by rw [e1]; omega, Or.inr ⟨rfl, Or.inr ⟨v.toInt.toNat, by omega, c1⟩⟩⟩
            · rw [if_neg c1]
              refine ih (m - 1) 1 (v + 1) (by omega) ⟨by rw [e1]; omega, by rw [e1]; omega, Or.inl ⟨rfl, hx0, fun d hd => ?_⟩⟩
              rw [e1] at hd
              by_cases hd2 : d = v.toInt.toNat
              · rw [hd2]; exact c1
              · exact hE d (by omega)
        · simp only [if_true, asked2_1 one_ne]
          exact g0 hz
      · rcases hf0 with rfl | rfl
        · exact Or.inr ⟨rfl, Or.inl rfl⟩
        · exact Or.inl ⟨rfl, rfl, fun c hc => by rw [tl0] at hc; omega⟩
    by_cases c6 : 6 ≤ τ.1 5 k.toInt.toNat
    · rw [if_pos c6]
      rw [tle, tl6] at c6
      exact lp 0 (Or.inl rfl) (fun _ => h1 hk hx (Or.inl (by omega))) (fun h => absurd h.1.symm one_ne)
    · rw [if_neg c6]
      rw [tle, tl6] at c6
      by_cases cd : τ.2 4 = 0
      · rw [if_pos cd]
        exact lp 1 (Or.inr rfl) (fun h => h1 hk hx (Or.inr (Or.inr (h.elim (fun e => absurd e one_ne) id)))) (fun h => ⟨by omega, h2 hk hx (by omega) cd h.2⟩)
      · rw [if_neg cd]
        exact lp 0 (Or.inl rfl) (fun _ => h1 hk hx (Or.inr (Or.inl cd))) (fun h => absurd h.1.symm one_ne)
  · have q : (if f_X10_isClass k = 0 then (0 : Int32) else if f_X10_isControl τ x = 0 then 0 else 1) = 0 := by
      by_cases hk : isK k
      · rw [ctl_no hC (fun h => hkc ⟨hk, h⟩), if_pos rfl, ite_self]
      · rw [klass_no hk, if_pos rfl]
    obtain ⟨n, rfl⟩ : ∃ n, N = n + 1 := ⟨N - 1, by omega⟩
    have fin : ∀ b : (Int32 → Int32 → Option (Int32 × gSt)) → Int32 → Int32 → Option (Int32 × gSt), (∀ self v, b self 0 v = some (0, g_sf τ 6 1)) → gLoop2 b (n + 1) 0 0 = r := fun b hb => (hb _ _).trans (h0 hkc)
    by_cases hk : isK k
    · rw [klass_yes hk, if_neg one_ne, ctl_no hC (fun h => hkc ⟨hk, h⟩), if_pos rfl, if_pos trivial]
      exact fin _ (fun self v => by simp only [if_true, asked2_0])
    · rw [klass_no hk, if_pos rfl, if_pos trivial]
      exact fin _ (fun self v => by simp only [if_true, asked2_0])
theorem rel_visit {σ τ : gSt} (hR : Rel σ τ) {k x : Int32} (hk : isK k) (hx : isC τ x) (hl : (τ.1 5 k.toInt.toNat).toInt < 6) (hv : ¬ visits τ k.toInt.toNat x) : Rel (g_pa (g_pa σ 10 (6 * k + τ.1 5 k.toInt.toNat) x) 11 k (τ.1 5 k.toInt.toNat + 1)) (g_pa (g_pa τ 4 (6 * k + τ.1 5 k.toInt.toNat) x) 5 k (τ.1 5 k.toInt.toNat + 1)) := by
  obtain ⟨⟨⟨a1, a2, a3, a4, a5, a6, a7, a8, a9, a10, a11⟩, s2, b⟩, iT, iC, iV, iE, iS, iP⟩ := hR
  have hk1 := hk.1
  have hk2 := hk.2
  have hl0 := iV.1 k.toInt.toNat
  have e := ent_in (j := τ.1 5 k.toInt.toNat) hk hl0.1 (by omega)
  have e1 := inc1 (v := τ.1 5 k.toInt.toNat) (n := 6) hl (by omega)
  generalize hL : (τ.1 5 k.toInt.toNat) = L at *
  generalize hK : k.toInt.toNat = K at *
  have en : (6 * k + L).toInt.toNat = 6 * K + L.toInt.toNat := by omega
  have F5 : (g_pa (g_pa τ 4 (6 * k + L) x) 5 k (L + 1)).1 5 = upd (τ.1 5) K (L + 1) := by
    rw [pa_1, if_pos rfl, hK]
    rfl
  have F4 : (g_pa (g_pa τ 4 (6 * k + L) x) 5 k (L + 1)).1 4 = upd (τ.1 4) (6 * K + L.toInt.toNat) x := by
    rw [pa_1, if_neg (by decide), pa_1, if_pos rfl, en]
  have len_c : ∀ c, 0 ≤ (upd (τ.1 5) K (L + 1) c).toInt ∧ (upd (τ.1 5) K (L + 1) c).toInt ≤ 6 := upd_all (P := fun v => 0 ≤ v.toInt ∧ v.toInt ≤ 6) iV.1 (by rw [e1]; omega)
  refine ⟨⟨⟨a1, a2, a3, a4, ?_, ?_, a7, a8, a9, a10, a11⟩, s2, b⟩, iT, iC, ⟨?_, ?_, ?_⟩, ⟨iE.1, iE.2.1, fun j hj => ?_, iE.2.2.2⟩, iS, iP⟩
  · rw [F4]
    show upd (σ.1 10) (6 * k + L).toInt.toNat x = _
    rw [a5, en]
  · rw [F5]
    show upd (σ.1 11) k.toInt.toNat (L + 1) = _
    rw [a6, hK]
  · rw [F5]
    exact len_c
  · intro c j hc hj
    rw [F5, upd_at] at hj
    rw [F4, upd_at]
    by_cases hcK : c = K
    · rw [if_pos hcK, e1] at hj
      by_cases hjL : j = L.toInt.toNat
      · rw [if_pos (by omega)]
        exact hx
      · rw [if_neg (by omega)]
        exact iV.2.1 c j hc (by rw [hcK, hL]; omega)
    · rw [if_neg hcK] at hj
      have := iV.1 c
      rw [if_neg (by omega)]
      exact iV.2.1 c j hc hj
  · intro c i j hc hij hj
    rw [F5, upd_at] at hj
    rw [F4, upd_at, upd_at]
    by_cases hcK : c = K
    · rw [if_pos hcK, e1] at hj
      by_cases hjL : j = L.toInt.toNat
      · rw [if_pos (c := 6 * c + j = 6 * K + L.toInt.toNat) (by omega), if_neg (by omega)]
        intro he
        exact hv ⟨i, by rw [hL]; omega, by rw [← hcK]; exact he⟩
      · rw [if_neg (c := 6 * c + j = 6 * K + L.toInt.toNat) (by omega), if_neg (by omega)]
        exact iV.2.2 c i j hc hij (by rw [hcK, hL]; omega)
    · rw [if_neg hcK] at hj
      have := iV.1 c
      rw [if_neg (by omega), if_neg (by omega)]
      exact iV.2.2 c i j hc hij hj
  · have h := iE.2.2.1 j hj
    refine ⟨h.1, h.2.1, ?_⟩
    show 2 ≤ ((g_pa (g_pa τ 4 (6 * k + L) x) 5 k (L + 1)).1 5 (τ.1 6 j).toInt.toNat).toInt
    rw [F5, upd_at]
    split
    · rename_i hq
      rw [hq, hL] at h
      rw [e1]
      omega
    · exact h.2.2
theorem owe_visit {N : Nat} (hN : 6 < N) : Owe_visit N := by
  intro σ τ k x hR
  have hC := hR.2.2.1
  have hV := hR.2.2.2.1
  unfold f_X9_visit
  simp only [gJoin1, gJoin0, drawn_z hR, f_X2_length]
  by_cases hk : isK k
  · have hk1 := hk.1
    have hk2 := hk.2
    have hl := hV.1 k.toInt.toNat
    rw [needK_yes hk, if_pos rfl]
    by_cases hx : isC τ x
    · rw [needC_yes hR.1 hx, if_pos rfl, clen hR.1 hk]
      have no3 : ((τ.1 5 k.toInt.toNat).toInt = 6 ∨ τ.2 4 ≠ 0 ∨ visits τ k.toInt.toNat x) → f_X10_visit N τ k x = some (0, g_sf τ 6 2) := fun h => visit_m hR.2 hN (fun g => absurd ⟨hk, hx⟩ g) (fun _ _ _ => rfl) (fun _ _ g1 g2 g3 => by rcases h with h | h | h <;> first | omega | exact absurd g2 h | exact absurd h g3)
      by_cases c6 : 6 ≤ τ.1 5 k.toInt.toNat
      · rw [if_pos c6, state0, if_neg (by decide), no3 (Or.inl (by rw [tle, tl6] at c6; omega))]
        exact Agr.no hR (by decide) (Or.inr (Or.inr rfl)) rfl
      · rw [if_neg c6]
        rw [tle, tl6] at c6
        by_cases hv : visits τ k.toInt.toNat x
        · rw [contains_eq (r := some 1) hR hN hk (fun h => absurd hv h) (fun _ => rfl), Option.bind_some, if_neg one_ne, state0, if_neg (by decide), no3 (Or.inr (Or.inr hv))]
          exact Agr.no hR (by decide) (Or.inr (Or.inr rfl)) rfl
        · rw [contains_eq (r := some 0) hR hN hk (fun _ => rfl) (fun h => absurd h hv), Option.bind_some, if_pos rfl, state1, if_pos rfl]
          by_cases hd : τ.2 4 = 0
          · rw [if_pos hd, if_pos rfl, visit_m (r := some (τ.1 5 k.toInt.toNat + 1, g_pa (g_pa (g_sf τ 6 0) 4 (6 * k + τ.1 5 k.toInt.toNat) x) 5 k (τ.1 5 k.toInt.toNat + 1))) hR.2 hN (fun g => absurd ⟨hk, hx⟩ g) (fun _ _ g => by rcases g with h | h | h <;> first | omega | exact absurd hd h | exact absurd h hv) (fun _ _ _ _ _ => rfl)]
            have e := ent_in (j := τ.1 5 k.toInt.toNat) hk hl.1 (by omega)
            have eA : f_X2_append σ k x = (τ.1 5 k.toInt.toNat + 1, g_pa (g_pa σ 10 (6 * k + τ.1 5 k.toInt.toNat) x) 11 k (τ.1 5 k.toInt.toNat + 1)) := by
              unfold f_X2_append f_X2_replaceControl
              rw [clen hR.1 hk, Int32.mul_comm, gput_pa (by rw [e]; omega) (by rw [e, len30.1]; omega)]
              have q : ginc (g_pa σ 10 (6 * k + τ.1 5 k.toInt.toNat) x) 11 k 1 = g_pa (g_pa σ 10 (6 * k + τ.1 5 k.toInt.toNat) x) 11 k (τ.1 5 k.toInt.toNat + 1) := by
                unfold ginc
                rw [gput_pa (by omega) (by rw [len30.2.1]; omega), gget_ga (by omega) (by rw [len30.2.1]; omega)]
                have : g_ga (g_pa σ 10 (6 * k + τ.1 5 k.toInt.toNat) x) 11 k = τ.1 5 k.toInt.toNat := by
                  show σ.1 11 k.toInt.toNat = _
                  rw [hR.1.1.2.2.2.2.2.1]
                rw [this]
              rw [q, gget_ga (by omega) (by rw [len30.2.1]; omega), ga_eq, pa_1, if_pos rfl, upd_at, if_pos rfl]
            rw [eA]
            exact Agr.yes (rel_visit (Rel.six (x := 0) hR) hk hx (by show (τ.1 5 k.toInt.toNat).toInt < 6; omega) hv) (Or.inl rfl) rfl rfl
          · rw [if_neg hd, state0, if_neg (by decide), no3 (Or.inr (Or.inl hd))]
            exact Agr.no hR (by decide) (Or.inr (Or.inr rfl)) rfl
    · rw [needC_no hR.1 hx, if_neg onen, visit_m (r := some (0, g_sf τ 6 1)) hR.2 hN (fun _ => rfl) (fun _ g _ => absurd g hx) (fun _ g _ _ _ => absurd g hx)]
      exact Agr.no hR (by decide) (Or.inr (Or.inl rfl)) rfl
  · rw [needK_no hk, if_neg onen, visit_m (r := some (0, g_sf τ 6 1)) hR.2 hN (fun _ => rfl) (fun g _ _ => absurd g hk) (fun g _ _ _ _ => absurd g hk)]
    exact Agr.no hR (by decide) (Or.inr (Or.inl rfl)) rfl
