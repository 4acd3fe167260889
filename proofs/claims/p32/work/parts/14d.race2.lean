/-! ===== pure: turned maps: totals, ranks, splits, lost times, punches ===== -/
theorem sym_total {τ t : gSt} {N : Nat} {x : Int32} (hI : Inv τ) (hI' : Inv t) (hN : 30 < N) (h : Tr τ t) : SymR (f_X10_total N τ x) (f_X10_total N t x) := by
  have hE := hI.2.2.2.1
  have hE' := hI'.2.2.2.1
  unfold f_X10_total
  by_cases hx : isR τ x
  · have hx' := h.run.mpr hx
    obtain ⟨n, i, hn, hxi, hi, n24⟩ := who hE hx
    rw [run_yes hE hx, run_yes hE' hx', asked1, asked1, if_neg one_ne, if_neg one_ne]
    obtain ⟨⟨b, s⟩, e2, hb, hM⟩ := total_m (N := N) (τ := g_sf τ 6 0) hI.six hN hxi (by show (i : Int) < (τ.2 3).toInt; omega)
    obtain ⟨⟨b', s'⟩, e2', hb', hM'⟩ := total_m (N := N) (τ := g_sf t 6 0) hI'.six hN hxi (by show (i : Int) < (t.2 3).toInt; rw [h.1.2.2.2.1]; omega)
    rw [e2, e2', Option.bind_some, Option.bind_some]
    refine SymR.yes ((h.six (x := 0) (y := 0)).keep hM.1 hM'.1) ((six0 hM.1).trans (six0 hM'.1).symm) ?_
    exact hb.trans ((h.six (x := 0) (y := 0)).e_tot i ▸ hb'.symm)
  · rw [run_no hE hx, run_no hE' (fun e => hx (h.run.mp e)), asked0, asked0]
    exact SymR.no h
theorem sym_rank {τ t : gSt} {N : Nat} {x : Int32} (hI : Inv τ) (hI' : Inv t) (hN : 30 < N) (h : Tr τ t) : SymR (f_X10_rank N τ x) (f_X10_rank N t x) := by
  have hE := hI.2.2.2.1
  have hE' := hI'.2.2.2.1
  by_cases hx : isR τ x
  · have hx' := h.run.mpr hx
    obtain ⟨n, i, hn, hxi, hi, n24⟩ := who hE hx
    refine SymR.of h (rank_m (N := N) hI hN hxi hn hi) (rank_m (N := N) hI' hN hxi (by rw [h.1.2.2.2.1]; exact hn) hi) ?_
    rintro p q ⟨p1, p2⟩ ⟨q1, q2⟩
    rw [h.e_tot, h.e_rkF] at q1
    exact ⟨p1.trans q1.symm, p2, q2⟩
  · unfold f_X10_rank
    rw [run_no hE hx, run_no hE' (fun e => hx (h.run.mp e)), asked0, asked0]
    exact SymR.no h
theorem sym_split {τ t : gSt} {N : Nat} {x v : Int32} (hI : Inv τ) (hI' : Inv t) (hN : 30 < N) (h : Tr τ t) : SymR (f_X10_split N τ x v) (f_X10_split N t x v) := by
  have hE := hI.2.2.2.1
  have hE' := hI'.2.2.2.1
  unfold f_X10_split
  by_cases hx : isR τ x
  · have hx' := h.run.mpr hx
    obtain ⟨n, i, hn, hxi, hi, n24⟩ := who hE hx
    have hi1 : (i : Int) < (τ.2 3).toInt := by omega
    have hi2 : (i : Int) < (t.2 3).toInt := by rw [h.1.2.2.2.1]; omega
    have hA := RF_of hI hi1
    have hA' := RF_of hI' hi2
    by_cases hg : isG (cor τ) i v
    · have hg' := h.e_isG.mpr hg
      obtain ⟨g, hv⟩ : ∃ g : Nat, v.toInt = g := ⟨v.toInt.toNat, by have := hg.1; omega⟩
      have hg2 : g + 1 < lL (cor τ) i := by have := hg.2; omega
      have hg2' : g + 1 < lL (cor t) i := by rw [h.e_lL]; exact hg2
      rw [(leg_m hI hxi hi1).1 hg, (leg_m hI' hxi hi2).1 hg', Option.bind_some, Option.bind_some, asked1, asked1, if_neg one_ne, if_neg one_ne]
      obtain ⟨⟨b, s⟩, e2, _, hM⟩ := goes_m (N := N) (τ := g_sf τ 6 0) hI.six hN hxi hi1
      obtain ⟨⟨b', s'⟩, e2', _, hM'⟩ := goes_m (N := N) (τ := g_sf t 6 0) hI'.six hN hxi hi2
      rw [e2, e2', Option.bind_some, Option.bind_some, split_m (N := N) hM hA hxi (by omega) hv hg2, split_m (N := N) hM' hA' hxi (by omega) hv hg2', Option.bind_some, Option.bind_some]
      exact SymR.yes ((h.six (x := 0) (y := 0)).keep hM.1 hM'.1) ((six0 hM.1).trans (six0 hM'.1).symm) (h.e_spl i g).symm
    · rw [(leg_m hI hxi hi1).2 hg, (leg_m hI' hxi hi2).2 (fun e => hg (h.e_isG.mp e)), Option.bind_some, Option.bind_some, asked0, asked0]
      exact SymR.no h
  · rw [leg_m0 hI hx, leg_m0 hI' (fun e => hx (h.run.mp e)), Option.bind_some, Option.bind_some, asked0, asked0]
    exact SymR.no h
theorem sym_lost {τ t : gSt} {N : Nat} {x v : Int32} (hI : Inv τ) (hI' : Inv t) (hN : 30 < N) (h : Tr τ t) : SymR (f_X10_lost N τ x v) (f_X10_lost N t x v) := by
  have hE := hI.2.2.2.1
  have hE' := hI'.2.2.2.1
  by_cases hx : isR τ x
  · have hx' := h.run.mpr hx
    obtain ⟨n, i, hn, hxi, hi, n24⟩ := who hE hx
    have hi1 : (i : Int) < (τ.2 3).toInt := by omega
    have hi2 : (i : Int) < (t.2 3).toInt := by rw [h.1.2.2.2.1]; omega
    by_cases hg : isG (cor τ) i v
    · have hg' := h.e_isG.mpr hg
      obtain ⟨g, hv⟩ : ∃ g : Nat, v.toInt = g := ⟨v.toInt.toNat, by have := hg.1; omega⟩
      have hg2 : g + 1 < lL (cor τ) i := by have := hg.2; omega
      have hg2' : g + 1 < lL (cor t) i := by rw [h.e_lL]; exact hg2
      refine SymR.of h (lost_m (N := N) hI hN hxi hn hi hv hg2) (lost_m (N := N) hI' hN hxi (by rw [h.1.2.2.2.1]; exact hn) hi hv hg2') ?_
      rintro p q ⟨p1, p2⟩ ⟨q1, q2⟩
      refine ⟨?_, p2, q2⟩
      rw [h.e_tot, h.e_vo, h.e_loF] at q1
      by_cases c : tot (cor τ) i = -1
      · rw [if_pos c] at p1 q1
        exact p1.trans q1.symm
      · rw [if_neg c] at p1 q1
        by_cases c2 : vo (cor τ) i g = 0
        · rw [if_pos c2] at p1 q1
          exact teq.mpr (p1.trans q1.symm)
        · rw [if_neg c2] at p1 q1
          exact p1.trans q1.symm
    · unfold f_X10_lost
      rw [(leg_m hI hxi hi1).2 hg, (leg_m hI' hxi hi2).2 (fun e => hg (h.e_isG.mp e)), Option.bind_some, Option.bind_some, asked0, asked0]
      exact SymR.no h
  · unfold f_X10_lost
    rw [leg_m0 hI hx, leg_m0 hI' (fun e => hx (h.run.mp e)), Option.bind_some, Option.bind_some, asked0, asked0]
    exact SymR.no h
theorem mk_lstF (A : Nat → Nat → Int32) (i : Nat) : lstF (mkA A) i = lstF A i := by
  unfold lstF
  rw [mk_pR, mkA_at (A := A) (r := 8) (by decide), mkA_at (A := A) (r := 10) (by decide)]
theorem Tr.e_lstF {τ t : gSt} (h : Tr τ t) (i : Nat) : lstF (cor t) i = lstF (cor τ) i := by rw [← mk_lstF (cor t), mkA_cor h, mk_lstF]
theorem Tr.pun {τ t : gSt} (h : Tr τ t) {i P : Nat} {c w : Int32} : Tr (tPun τ i P c w) (tPun t i P c w) := by
  unfold tPun
  rw [h.r (r := 9) (by omega) (by omega), h.r (r := 10) (by omega) (by omega), h.r (r := 11) (by omega) (by omega)]
  exact ((h.sa (by omega)).sa (by omega)).sa (by omega)
/-- what a punch that is taken gives the reference -/
theorem punch_y {σ τ : gSt} {N i P : Nat} {x c w : Int32} (hR : Rel σ τ) (hN : 30 < N) (hx : isR τ x) (hc : isC τ c) (hxi : x.toInt = i) (hi : (i : Int) < (τ.2 3).toInt) (i24 : i < 24) (hP : (τ.1 11 i).toInt = P) (hP2 : P < 20) (c1 : τ.2 4 ≠ 0) (hr : (lstF (cor τ) i).toInt ≤ w.toInt ∧ w.toInt ≤ 9999) : Ok (fun (q : Int32 × gSt) => q.1.toInt = cT (cor (tPun (g_sf τ 6 0) i P c w)) i ∧ Km (tPun (g_sf τ 6 0) i P c w) q.2) (f_X10_punch N τ x c w) := by
  have hI := hR.2
  have hA := RF_of hI hi
  have hpR : pR (cor τ) i = P := by
    have := hA.2.2.2.2.2.2.2.2.1
    rw [cor_at (by decide), hP] at this
    omega
  obtain ⟨r1, r2, r3, r4, r5, r6, r7, r8, r9, r10, r11, r12, r13⟩ := id hA
  have q8 : cor τ 8 i = τ.1 8 i := by rw [cor_at (by decide)]
  have q10 : ∀ j, cor τ 10 j = τ.1 10 j := fun j => by rw [cor_at (by decide)]
  have hlw : ∀ j, j < P → (τ.1 10 (20 * i + j)).toInt ≤ w.toInt := fun j hj => by
    have hl := hr.1
    unfold lstF at hl
    rw [if_neg (by omega), q10, hpR] at hl
    by_cases e : j = P - 1
    · rw [e]; exact hl
    · have := r12 j (P - 1) (by omega) (by omega)
      rw [q10, q10] at this
      omega
  have h8w : (τ.1 8 i).toInt ≤ w.toInt := by
    by_cases e : P = 0
    · have hl := hr.1
      unfold lstF at hl
      rw [if_pos (by omega), q8] at hl
      exact hl
    · have := (r11 0 (by omega)).2.1
      rw [q8, q10] at this
      have := hlw 0 (by omega)
      omega
  have hRp : Rel (sPun σ i P c w) (tPun (g_sf τ 6 0) i P c w) := rel_pun (hR.six (x := 0)) (by omega) hP (by omega) c1 hc h8w hlw hr.2
  obtain ⟨⟨b, t⟩, e2, _, hM⟩ := goes_m (N := N) hRp.2 hN hxi (by show (i : Int) < (τ.2 3).toInt; omega)
  refine punch_34 (N := N) (w := w) hI hx hc hxi hi i24 hP hP2 c1 (fun e => absurd hr e) (fun _ => ?_)
  rw [e2, Option.bind_some]
  exact Ok.some ⟨hM.2.2, hM.1⟩
theorem sym_punch {σ σ' τ t : gSt} {N : Nat} {x c w : Int32} (hR : Rel σ τ) (hR' : Rel σ' t) (hN : 30 < N) (h : Tr τ t) : SymR (f_X10_punch N τ x c w) (f_X10_punch N t x c w) := by
  have hI := hR.2
  have hI' := hR'.2
  have hE := hI.2.2.2.1
  have ed : t.2 4 = τ.2 4 := h.1.2.2.2.2
  have e11 := h.r (r := 11) (by omega) (by omega)
  have two : ∀ z : Int32, Ok (fun (q : Int32 × gSt) => q = (0, g_sf τ 6 z)) (f_X10_punch N τ x c w) → Ok (fun (q : Int32 × gSt) => q = (0, g_sf t 6 z)) (f_X10_punch N t x c w) → SymR (f_X10_punch N τ x c w) (f_X10_punch N t x c w) := by
    rintro z ⟨p, e1, rfl⟩ ⟨q, e2, rfl⟩
    rw [e1, e2]
    exact SymR.no h
  by_cases hx : isR τ x ∧ isC τ c
  · have hx' : isR t x ∧ isC t c := ⟨h.run.mpr hx.1, h.ctl.mpr hx.2⟩
    obtain ⟨n, i, hn, hxi, hi, n24⟩ := who hE hx.1
    have hi1 : (i : Int) < (τ.2 3).toInt := by omega
    have hi2 : (i : Int) < (t.2 3).toInt := by rw [h.1.2.2.2.1]; omega
    have hpi := hI.2.2.2.2.2.1 i
    by_cases c2 : τ.2 4 = 0 ∨ 20 ≤ (τ.1 11 i).toInt
    · exact two 2 (punch_2 hI hx.1 hx.2 hxi (by omega) c2) (punch_2 hI' hx'.1 hx'.2 hxi (by omega) (by rw [ed, e11]; exact c2))
    · obtain ⟨P, hP⟩ : ∃ P : Nat, (τ.1 11 i).toInt = P := ⟨(τ.1 11 i).toInt.toNat, by omega⟩
      have hP' : (t.1 11 i).toInt = P := by rw [e11]; exact hP
      have d1 : τ.2 4 ≠ 0 := fun e => c2 (Or.inl e)
      have d1' : t.2 4 ≠ 0 := by rw [ed]; exact d1
      by_cases hr : (lstF (cor τ) i).toInt ≤ w.toInt ∧ w.toInt ≤ 9999
      · have hr' : (lstF (cor t) i).toInt ≤ w.toInt ∧ w.toInt ≤ 9999 := by rw [h.e_lstF]; exact hr
        obtain ⟨⟨b, s⟩, e1, hb, hM⟩ := punch_y hR hN hx.1 hx.2 hxi hi1 (by omega) hP (by omega) d1 hr
        obtain ⟨⟨b', s'⟩, e1', hb', hM'⟩ := punch_y hR' hN hx'.1 hx'.2 hxi hi2 (by omega) hP' (by omega) d1' hr'
        have hp : Tr (tPun (g_sf τ 6 0) i P c w) (tPun (g_sf t 6 0) i P c w) := (h.six (x := 0) (y := 0)).pun
        rw [e1, e1']
        refine SymR.yes (hp.keep hM hM') ((hM.2 6 (Or.inr rfl)).trans (hM'.2 6 (Or.inr rfl)).symm) ?_
        rw [hp.e_cT] at hb'
        exact teq.mpr (hb.trans hb'.symm)
      · have hr' : ¬ ((lstF (cor t) i).toInt ≤ w.toInt ∧ w.toInt ≤ 9999) := by rw [h.e_lstF]; exact hr
        exact two 3 (punch_34 hI hx.1 hx.2 hxi hi1 (by omega) hP (by omega) d1 (fun _ => rfl) (fun e => absurd e hr)) (punch_34 hI' hx'.1 hx'.2 hxi hi2 (by omega) hP' (by omega) d1' (fun _ => rfl) (fun e => absurd e hr'))
  · exact two 1 (punch_1 hI hx) (punch_1 hI' (fun e => hx ⟨h.run.mp e.1, h.ctl.mp e.2⟩))
