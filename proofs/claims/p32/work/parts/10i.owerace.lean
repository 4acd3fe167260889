/-! ===== pure: stateOf, split, total, rank, lost, punch ===== -/
theorem who {τ : gSt} (hE : InvE τ) {x : Int32} (h : isR τ x) : ∃ n i : Nat, (τ.2 3).toInt = n ∧ x.toInt = i ∧ i < n ∧ n ≤ 24 := by
  have := hE.1
  have := hE.2.1
  have := h.1
  have := h.2
  exact ⟨(τ.2 3).toInt.toNat, x.toInt.toNat, by omega, by omega, by omega, by omega⟩
theorem six0 {τ t : gSt} (h : Km (g_sf τ 6 0) t) : t.2 6 = 0 := (h.2 6 (Or.inr rfl)).trans (by rw [sf_2, if_pos rfl])
theorem owe_stateOf {N : Nat} (hN : 30 < N) : Owe_stateOf N := by
  intro σ τ x hR
  have hE := hR.2.2.2.2.1
  unfold f_X9_stateOf f_X10_stateOf
  by_cases h : isR τ x
  · obtain ⟨n, i, hn, hx, hi, n24⟩ := who hE h
    rw [needR_yes hR.1 h, if_pos rfl, run_yes hE h, asked1]
    obtain ⟨s, e1, hC⟩ := reckon_c hR hN hn
    obtain ⟨⟨b, t⟩, e2, hb, hM⟩ := state_m (N := N) (hR.six (x := 0)).2 hN hx (by show (i : Int) < (τ.2 3).toInt; omega)
    rw [e1, Option.bind_some]
    refine (congrArg _ (if_neg one_ne)).mpr ?_
    rw [e2, Option.bind_some]
    refine Agr.yes (hR.six.keep hC.1.kc hM.1) (Or.inl rfl) (six0 hM.1) ?_
    exact hb.trans (c26 (CS_of hR hn hC) hx hi).symm
  · rw [needR_no hR.1 h, if_neg onen, run_no hE h, asked0]
    exact Agr.no hR (by decide) (Or.inr rfl) rfl
theorem owe_total {N : Nat} (hN : 30 < N) : Owe_total N := by
  intro σ τ x hR
  have hE := hR.2.2.2.2.1
  unfold f_X9_total f_X10_total
  by_cases h : isR τ x
  · obtain ⟨n, i, hn, hx, hi, n24⟩ := who hE h
    rw [needR_yes hR.1 h, if_pos rfl, run_yes hE h, asked1]
    obtain ⟨s, e1, hC⟩ := reckon_c hR hN hn
    obtain ⟨⟨b, t⟩, e2, hb, hM⟩ := total_m (N := N) (hR.six (x := 0)).2 hN hx (by show (i : Int) < (τ.2 3).toInt; omega)
    rw [e1, Option.bind_some]
    refine (congrArg _ (if_neg one_ne)).mpr ?_
    rw [e2, Option.bind_some]
    refine Agr.yes (hR.six.keep hC.1.kc hM.1) (Or.inl rfl) (six0 hM.1) ?_
    exact hb.trans (c27 (CS_of hR hn hC) hx hi).symm
  · rw [needR_no hR.1 h, if_neg onen, run_no hE h, asked0]
    exact Agr.no hR (by decide) (Or.inr rfl) rfl
theorem owe_rank {N : Nat} (hN : 30 < N) : Owe_rank N := by
  intro σ τ x hR
  have hE := hR.2.2.2.2.1
  unfold f_X9_rank
  by_cases h : isR τ x
  · obtain ⟨n, i, hn, hx, hi, n24⟩ := who hE h
    rw [needR_yes hR.1 h, if_pos rfl]
    obtain ⟨s, e1, hC⟩ := reckon_c hR hN hn
    obtain ⟨r, e3, hr⟩ := place_c (N := N) (CS_of hR hn hC) hN hx hi
    obtain ⟨⟨b, t⟩, e2, hb, hM⟩ := rank_m (N := N) hR.2 hN hx hn hi
    rw [e1, Option.bind_some, e3, Option.bind_some, e2]
    exact Agr.yes (hR.six.keep hC.1.kc hM) (Or.inl rfl) (six0 hM) (hb.trans hr.symm)
  · unfold f_X10_rank
    rw [needR_no hR.1 h, if_neg onen, run_no hE h, asked0]
    exact Agr.no hR (by decide) (Or.inr rfl) rfl
theorem needL_c {σ τ : gSt} {i : Nat} {x v : Int32} (hR : Rel σ τ) (hA : RF (cor τ) i) (hx : x.toInt = i) (hi : i < 24) : (isG (cor τ) i v → f_X9_needLeg σ x v = 0) ∧ (¬ isG (cor τ) i v → f_X9_needLeg σ x v = 1) := by
  have hl := legs_c hR hA
  have r4 := hA.2.2.2.1
  unfold f_X9_needLeg isG
  rw [klass_c hR hx hi]
  refine ⟨fun h => ?_, fun h => ?_⟩
  · rw [idx_yes h.1 (by rw [hl]; omega), if_pos rfl]
  · rw [idx_no (by rw [hl]; omega), if_neg onen]
theorem owe_split {N : Nat} (hN : 30 < N) : Owe_split N := by
  intro σ τ x v hR
  have hE := hR.2.2.2.2.1
  unfold f_X9_split f_X10_split
  by_cases h : isR τ x
  · obtain ⟨n, i, hn, hx, hi, n24⟩ := who hE h
    have hA := RF_of hR.2 (i := i) (by omega)
    rw [needR_yes hR.1 h, if_pos rfl]
    by_cases hg : isG (cor τ) i v
    · have r5 := hA.2.2.2.2.1
      obtain ⟨g, hv⟩ : ∃ g : Nat, v.toInt = g := ⟨v.toInt.toNat, by have := hg.1; omega⟩
      have hg2 : g + 1 < lL (cor τ) i := by have := hg.2; omega
      rw [(needL_c hR hA hx (by omega)).1 hg, if_pos rfl, (leg_m hR.2 hx (by omega)).1 hg, Option.bind_some, asked1]
      obtain ⟨s, e1, hC⟩ := reckon_c hR hN hn
      obtain ⟨⟨b, t⟩, e2, _, hM⟩ := goes_m (N := N) (hR.six (x := 0)).2 hN hx (by show (i : Int) < (τ.2 3).toInt; omega)
      rw [e1, Option.bind_some]
      refine (congrArg _ (if_neg one_ne)).mpr ?_
      rw [e2, Option.bind_some, split_m (N := N) hM hA hx (by omega) hv hg2, Option.bind_some]
      refine Agr.yes (hR.six.keep hC.1.kc hM.1) (Or.inl rfl) (six0 hM.1) ?_
      exact (c24 (CS_of hR hn hC) hx hi hv hg2).symm
    · rw [(needL_c hR hA hx (by omega)).2 hg, if_neg onen, (leg_m hR.2 hx (by omega)).2 hg, Option.bind_some, asked0]
      exact Agr.no hR (by decide) (Or.inr rfl) rfl
  · rw [needR_no hR.1 h, if_neg onen, leg_m0 hR.2 h, Option.bind_some, asked0]
    exact Agr.no hR (by decide) (Or.inr rfl) rfl
theorem owe_lost {N : Nat} (hN : 30 < N) : Owe_lost N := by
  intro σ τ x v hR
  have hE := hR.2.2.2.2.1
  unfold f_X9_lost
  by_cases h : isR τ x
  · obtain ⟨n, i, hn, hx, hi, n24⟩ := who hE h
    have hA := RF_of hR.2 (i := i) (by omega)
    rw [needR_yes hR.1 h, if_pos rfl]
    by_cases hg : isG (cor τ) i v
    · obtain ⟨g, hv⟩ : ∃ g : Nat, v.toInt = g := ⟨v.toInt.toNat, by have := hg.1; omega⟩
      have hg2 : g + 1 < lL (cor τ) i := by have := hg.2; omega
      rw [(needL_c hR hA hx (by omega)).1 hg, if_pos rfl]
      obtain ⟨s, e1, hC⟩ := reckon_c hR hN hn
      obtain ⟨r, e3, hr⟩ := lost_c (N := N) (CS_of hR hn hC) hN hx hi hv hg2
      obtain ⟨⟨b, t⟩, e2, hb, hM⟩ := lost_m (N := N) hR.2 hN hx hn hi hv hg2
      rw [e1, Option.bind_some, e3, Option.bind_some, e2]
      refine Agr.yes (hR.six.keep hC.1.kc hM) (Or.inl rfl) (six0 hM) ?_
      show b = r
      dsimp only at hb
      by_cases c : tot (cor τ) i = -1
      · rw [if_pos c] at hb hr
        exact hb.trans hr.symm
      · rw [if_neg c] at hb hr
        by_cases c2 : vo (cor τ) i g = 0
        · rw [if_pos c2] at hb hr
          exact teq.mpr (hb.trans hr.symm)
        · rw [if_neg c2] at hb hr
          exact hb.trans hr.symm
    · unfold f_X10_lost
      rw [(needL_c hR hA hx (by omega)).2 hg, if_neg onen, (leg_m hR.2 hx (by omega)).2 hg, Option.bind_some, asked0]
      exact Agr.no hR (by decide) (Or.inr rfl) rfl
  · unfold f_X10_lost
    rw [needR_no hR.1 h, if_neg onen, leg_m0 hR.2 h, Option.bind_some, asked0]
    exact Agr.no hR (by decide) (Or.inr rfl) rfl
/-- the earliest minute of the next punch -/
def lstF (A : Nat → Nat → Int32) (i : Nat) : Int32 := if pR A i = 0 then A 8 i else A 10 (20 * i + (pR A i - 1))
/-- both states behind a punch -/
def sPun (σ : gSt) (i P : Nat) (c w : Int32) : gSt := g_sa (g_sa (g_sa σ 21 (upd (σ.1 21) (20 * i + P) c)) 22 (upd (σ.1 22) (20 * i + P) w)) 20 (upd (σ.1 20) i (σ.1 20 i + 1))
def tPun (τ : gSt) (i P : Nat) (c w : Int32) : gSt := g_sa (g_sa (g_sa τ 9 (upd (τ.1 9) (20 * i + P) c)) 10 (upd (τ.1 10) (20 * i + P) w)) 11 (upd (τ.1 11) i (τ.1 11 i + 1))
theorem rel_pun {σ τ : gSt} {i P : Nat} {c w : Int32} (hR : Rel σ τ) (hi : i < 24) (hP : (τ.1 11 i).toInt = P) (hP2 : P < 20) (hd : τ.2 4 ≠ 0) (hc : isC τ c) (h8 : (τ.1 8 i).toInt ≤ w.toInt) (hl : ∀ j, j < P → (τ.1 10 (20 * i + j)).toInt ≤ w.toInt) (hw : w.toInt ≤ 9999) : Rel (sPun σ i P c w) (tPun τ i P c w) := by
  obtain ⟨⟨⟨a1, a2, a3, a4, a5, a6, a7, a8, a9, a10, a11⟩, s2, b⟩, iT, iC, iV, iE, iS, iP⟩ := hR
  have e11 : (tPun τ i P c w).1 11 = upd (τ.1 11) i (τ.1 11 i + 1) := rfl
  have e9 : (tPun τ i P c w).1 9 = upd (τ.1 9) (20 * i + P) c := rfl
  have e10 : (tPun τ i P c w).1 10 = upd (τ.1 10) (20 * i + P) w := rfl
  have f11 : (sPun σ i P c w).1 20 = upd (σ.1 20) i (σ.1 20 i + 1) := rfl
  have f9 : (sPun σ i P c w).1 21 = upd (σ.1 21) (20 * i + P) c := rfl
  have f10 : (sPun σ i P c w).1 22 = upd (σ.1 22) (20 * i + P) w := rfl
  have ep : (τ.1 11 i + 1).toInt = P + 1 := by rw [inc1 (n := 100) (by omega) (by omega), hP]
  obtain ⟨p1, p2, p3, p4⟩ := iP
  refine ⟨⟨⟨a1, a2, a3, a4, a5, a6, a7, a8, ?_, ?_, ?_⟩, s2, b⟩, iT, iC, iV, iE, iS, fun k => ?_, fun h => absurd h hd, fun i' j h1 h2 => ?_, fun i' j k h1 h2 h3 => ?_⟩
  · rw [e11, f11, a9]
  · rw [e9, f9, a10]
  · rw [e10, f10, a11]
  · rw [e11, upd_at]
    by_cases e : k = i
    · rw [if_pos e, ep]; omega
    · rw [if_neg e]; exact p1 k
  · rw [e11, upd_at] at h2
    rw [e9, e10, upd_at, upd_at]
    show 0 ≤ _ ∧ _ < (τ.2 2).toInt ∧ (τ.1 8 i').toInt ≤ _ ∧ _
    by_cases e : i' = i
    · rw [if_pos e, ep] at h2
      subst e
      by_cases e2 : j = P
      · rw [if_pos (by omega), if_pos (by omega)]
        exact ⟨hc.1, hc.2, h8, hw⟩
      · rw [if_neg (by omega), if_neg (by omega)]
        exact p3 i' j h1 (by omega)
    · rw [if_neg e] at h2
      have := (p1 i').2
      rw [if_neg (by omega), if_neg (by omega)]
      exact p3 i' j h1 h2
  · rw [e11, upd_at] at h3
    rw [e10, upd_at, upd_at]
    by_cases e : i' = i
    · rw [if_pos e, ep] at h3
      subst e
      rw [if_neg (show ¬ 20 * i' + j = 20 * i' + P by omega)]
      by_cases e2 : k = P
      · rw [if_pos (by omega)]
        exact hl j (by omega)
      · rw [if_neg (by omega)]
        exact p4 i' j k h1 h2 (by omega)
    · rw [if_neg e] at h3
      have := (p1 i').2
      rw [if_neg (by omega), if_neg (by omega)]
      exact p4 i' j k h1 h2 h3
theorem add_c {σ τ : gSt} {i P : Nat} {x c w : Int32} (hR : Rel σ τ) (hx : x.toInt = i) (hi : i < 24) (hP : (τ.1 11 i).toInt = P) (hP2 : P < 20) : f_X3_addPunch σ x c w = sPun σ i P c w := by
  have e20 : (x * 20).toInt = 20 * i := by rw [tmul (by rw [tl20]; omega), tl20, hx]; omega
  have g20 : ∀ s : gSt, s.1 20 = τ.1 11 → gget s 20 x = τ.1 11 i := fun s h => by
    rw [gget_in (by omega) (by rw [len30.2.2.2.2.2.2.1]; omega), h, hx]
    rfl
  have h20 := hR.1.1.2.2.2.2.2.2.2.2.1
  have ep : (x * 20 + τ.1 11 i).toInt = 20 * i + P := by rw [tadd (by rw [e20]; omega), e20, hP]
  unfold f_X3_addPunch ginc
  rw [g20 σ h20, gput_in (r := 21) (by omega) (by rw [len30.2.2.2.2.2.2.2.1]; omega), ep, gput_in (r := 22) (by omega) (by rw [len30.2.2.2.2.2.2.2.2.1]; omega), ep, gput_in (r := 20) (by omega) (by rw [len30.2.2.2.2.2.2.1]; omega), hx, g20 (g_sa (g_sa σ 21 _) 22 _) h20, ← h20]
  rfl
theorem early_c {σ τ : gSt} {i : Nat} {x : Int32} (hR : Rel σ τ) (hA : RF (cor τ) i) (hx : x.toInt = i) (hi : (i : Int) < (τ.2 3).toInt) : f_X3_earliestPunch σ x = lstF (cor τ) i := by
  have i24 : i < 24 := by have := hR.2.2.2.2.1.2.1; omega
  have hp := pc_c hR hA hx i24
  have r10 := hA.2.2.2.2.2.2.2.2.2.1
  unfold f_X3_earliestPunch lstF
  by_cases c : pR (cor τ) i = 0
  · rw [if_pos c, if_pos (by rw [tle, hp, tl0]; omega), gget_in (by omega) (by rw [len24]; omega), hx, cor_at (by decide)]
    exact hR.1.2.1 _ (by omega)
  · rw [if_neg c, if_neg (by rw [tle, hp, tl0]; omega)]
    exact (pun_c hR hx i24 (k := pR (cor τ) i - 1) (by rw [tsub (by rw [hp, tl1]; omega), hp, tl1]; omega) (by omega)).2
