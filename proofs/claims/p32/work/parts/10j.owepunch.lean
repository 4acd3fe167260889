/-! ===== pure: punch ===== -/
theorem asked3_0' {τ : gSt} {b c : Int32} : (f_X10_asked__ τ 0 b c).1 = 0 := by rw [asked3_0]
theorem punch_1 {τ : gSt} {N : Nat} {x c w : Int32} (hI : Inv τ) (h : ¬ (isR τ x ∧ isC τ c)) : Ok (fun (q : Int32 × gSt) => q = (0, g_sf τ 6 1)) (f_X10_punch N τ x c w) := by
  have fin : Ok (fun (q : Int32 × gSt) => q = (0, g_sf τ 6 1)) (some (0, (f_X10_asked__ τ 0 0 (f_X10_in w 0 9999)).2)) := Ok.some (by rw [asked3_0])
  unfold f_X10_punch
  refine okz (ok0 ?_)
  by_cases hx : isR τ x
  · rw [run_yes hI.2.2.2.1 hx, ctl_no hI.2.1 (fun e => h ⟨hx, e⟩)]
    exact okf one_ne (okt rfl (okz (ok0 (okt rfl (okz (okt rfl (okt asked3_0' fin)))))))
  · rw [run_no hI.2.2.2.1 hx]
    exact okt rfl (okz (ok0 (okt rfl (okz (okt rfl (okt asked3_0' fin))))))
theorem punch_2 {τ : gSt} {N i : Nat} {x c w : Int32} (hI : Inv τ) (hx : isR τ x) (hc : isC τ c) (hxi : x.toInt = i) (hi : i < 24) (h : τ.2 4 = 0 ∨ 20 ≤ (τ.1 11 i).toInt) : Ok (fun (q : Int32 × gSt) => q = (0, g_sf τ 6 2)) (f_X10_punch N τ x c w) := by
  have fin : Ok (fun (q : Int32 × gSt) => q = (0, g_sf τ 6 2)) (some (0, (f_X10_asked__ τ 1 0 (f_X10_in w 0 9999)).2)) := Ok.some (by rw [asked3_1 one_ne])
  have a0 : (f_X10_asked__ τ 1 0 (f_X10_in w 0 9999)).1 = 0 := by rw [asked3_1 one_ne]
  have e11 : g_ga τ 11 x = τ.1 11 i := ga_at hxi
  unfold f_X10_punch
  rw [run_yes hI.2.2.2.1 hx, ctl_yes hI.2.1 hc]
  refine okz (ok0 (okf one_ne (okf one_ne (okz (ok0 (okf one_ne ?_))))))
  by_cases c1 : τ.2 4 = 0
  · exact okt c1 (okz (okt rfl (okt a0 fin)))
  · refine okf c1 (okf (gd (by omega) (by omega)) (okt ?_ (okz (okt rfl (okt a0 fin)))))
    rw [tle, e11, tl20]
    exact h.resolve_left c1
theorem punch_lst {τ : gSt} {i : Nat} {x : Int32} (hA : RF (cor τ) i) (hx : x.toInt = i) (hi : i < 24) : (pR (cor τ) i = 0 → lstF (cor τ) i = g_ga τ 8 x) ∧ (pR (cor τ) i ≠ 0 → ((20 * x) + (g_ga τ 11 x) - 1).toInt = 20 * i + (pR (cor τ) i - 1 : Nat) ∧ lstF (cor τ) i = g_ga τ 10 ((20 * x) + (g_ga τ 11 x) - 1)) := by
  obtain ⟨k1, k2, k3, k4⟩ := run_at (s := τ) Km.rf hx hA
  have r10 := hA.2.2.2.2.2.2.2.2.2.1
  have e20 : (20 * x).toInt = 20 * i := by rw [tmul (by rw [tl20]; omega), tl20, hx]
  have e21 : ((20 * x) + (g_ga τ 11 x)).toInt = 20 * i + pR (cor τ) i := by rw [tadd (by rw [e20, k4]; omega), e20, k4]
  unfold lstF
  refine ⟨fun h => ?_, fun h => ?_⟩
  · rw [if_pos h, ga_at hx, cor_at (by decide)]
  · have e : ((20 * x) + (g_ga τ 11 x) - 1).toInt = 20 * i + (pR (cor τ) i - 1 : Nat) := by rw [tsub (by rw [e21, tl1]; omega), e21, tl1]; omega
    refine ⟨e, ?_⟩
    rw [if_neg h, ga_at (n := 20 * i + (pR (cor τ) i - 1)) (by rw [e]; omega), cor_at (by decide)]
theorem punch_34 {τ : gSt} {N i P : Nat} {x c w : Int32} {R : Int32 × gSt → Prop} (hI : Inv τ) (hx : isR τ x) (hc : isC τ c) (hxi : x.toInt = i) (hi : (i : Int) < (τ.2 3).toInt) (i24 : i < 24) (hP : (τ.1 11 i).toInt = P) (hP2 : P < 20) (hd : τ.2 4 ≠ 0)
    (no : ¬ ((lstF (cor τ) i).toInt ≤ w.toInt ∧ w.toInt ≤ 9999) → R (0, g_sf τ 6 3))
    (yes : ((lstF (cor τ) i).toInt ≤ w.toInt ∧ w.toInt ≤ 9999) → Ok R ((f_X10_goesThrough N (tPun (g_sf τ 6 0) i P c w) x).bind (fun (q : Int32 × gSt) => some (q.2.2 5, q.2)))) : Ok R (f_X10_punch N τ x c w) := by
  have hA := RF_of hI hi
  have gx := gd (x := x) (n := 24) (by omega) (by omega)
  have hpR : pR (cor τ) i = P := by
    have := hA.2.2.2.2.2.2.2.2.1
    rw [cor_at (by decide), hP] at this
    omega
  have e11 : g_ga τ 11 x = τ.1 11 i := ga_at hxi
  obtain ⟨l1, l2⟩ := punch_lst hA hxi i24
  have e20 : (20 * x).toInt = 20 * i := by rw [tmul (by rw [tl20]; omega), tl20, hxi]
  have e21 : ((20 * x) + τ.1 11 i).toInt = 20 * i + P := by rw [tadd (by rw [e20, hP]; omega), e20, hP]
  have g480 : ¬ ((20 * x) + τ.1 11 i < 0 ∨ 480 ≤ ((20 * x) + τ.1 11 i).toNatClampNeg) := gd (by omega) (by omega)
  have key : ∀ v : Int32, v = lstF (cor τ) i → Ok R (if (f_X10_asked__ τ 1 1 (f_X10_in w v 9999)).1 = 0 then
                some (0, (f_X10_asked__ τ 1 1 (f_X10_in w v 9999)).2)
              else
                if x < 0 ∨ 24 ≤ x.toNatClampNeg then none else
                if (20 * x) + (g_ga ((f_X10_asked__ τ 1 1 (f_X10_in w v 9999)).2) 11 x) < 0 ∨ 480 ≤ ((20 * x) + (g_ga ((f_X10_asked__ τ 1 1 (f_X10_in w v 9999)).2) 11 x)).toNatClampNeg then none else
                if x < 0 ∨ 24 ≤ x.toNatClampNeg then none else
                if (20 * x) + (g_ga (g_pa ((f_X10_asked__ τ 1 1 (f_X10_in w v 9999)).2) 9 ((20 * x) + (g_ga ((f_X10_asked__ τ 1 1 (f_X10_in w v 9999)).2) 11 x)) c) 11 x) < 0 ∨ 480 ≤ ((20 * x) + (g_ga (g_pa ((f_X10_asked__ τ 1 1 (f_X10_in w v 9999)).2) 9 ((20 * x) + (g_ga ((f_X10_asked__ τ 1 1 (f_X10_in w v 9999)).2) 11 x)) c) 11 x)).toNatClampNeg then none else
                if x < 0 ∨ 24 ≤ x.toNatClampNeg then none else
                if x < 0 ∨ 24 ≤ x.toNatClampNeg then none else
                (f_X10_goesThrough N (g_pa (g_pa (g_pa ((f_X10_asked__ τ 1 1 (f_X10_in w v 9999)).2) 9 ((20 * x) + (g_ga ((f_X10_asked__ τ 1 1 (f_X10_in w v 9999)).2) 11 x)) c) 10 ((20 * x) + (g_ga (g_pa ((f_X10_asked__ τ 1 1 (f_X10_in w v 9999)).2) 9 ((20 * x) + (g_ga ((f_X10_asked__ τ 1 1 (f_X10_in w v 9999)).2) 11 x)) c) 11 x)) w) 11 x ((g_ga (g_pa (g_pa ((f_X10_asked__ τ 1 1 (f_X10_in w v 9999)).2) 9 ((20 * x) + (g_ga ((f_X10_asked__ τ 1 1 (f_X10_in w v 9999)).2) 11 x)) c) 10 ((20 * x) + (g_ga (g_pa ((f_X10_asked__ τ 1 1 (f_X10_in w v 9999)).2) 9 ((20 * x) + (g_ga ((f_X10_asked__ τ 1 1 (f_X10_in w v 9999)).2) 11 x)) c) 11 x)) w) 11 x) + 1)) x).bind (fun (q_168 : Int32 × gSt) =>
                some (q_168.2.2 5, q_168.2))) := by
    intro v hv
    by_cases hr : (lstF (cor τ) i).toInt ≤ w.toInt ∧ w.toInt ≤ 9999
    · rw [in_yes (x := w) (a := v) (b := 9999) (by rw [hv]; exact hr.1) (by rw [tl9999]; exact hr.2), asked3_3 one_ne one_ne one_ne]
      have a1 : g_ga (g_sf τ 6 0) 11 x = τ.1 11 i := ga_at hxi
      have a2 : ∀ y, g_ga (g_pa (g_sf τ 6 0) 9 y c) 11 x = τ.1 11 i := fun y => ga_at hxi
      have a3 : ∀ y z, g_ga (g_pa (g_pa (g_sf τ 6 0) 9 y c) 10 z w) 11 x = τ.1 11 i := fun y z => ga_at hxi
      rw [a1, a2, a3]
      refine okf one_ne (okf gx (okf g480 (okf gx (okf g480 (okf gx (okf gx ?_))))))
      have et : g_pa (g_pa (g_pa (g_sf τ 6 0) 9 (20 * x + τ.1 11 i) c) 10 (20 * x + τ.1 11 i) w) 11 x (τ.1 11 i + 1) = tPun (g_sf τ 6 0) i P c w := by
        have q1 : (20 * x + τ.1 11 i).toInt.toNat = 20 * i + P := by omega
        have q2 : x.toInt.toNat = i := by omega
        unfold g_pa tPun
        rw [tcl, tcl, q1, q2]
        rfl
      rw [et]
      exact yes hr
    · rw [in_no (x := w) (a := v) (b := 9999) (by rw [hv, tl9999]; omega), asked3_2 one_ne one_ne]
      exact okt rfl (Ok.some (no hr))
  unfold f_X10_punch
  rw [run_yes hI.2.2.2.1 hx, ctl_yes hI.2.1 hc]
  refine okz (ok0 (okf one_ne (okf one_ne (okz (ok0 (okf one_ne (okf hd (okf gx (okf ?_ (okz (okf one_ne (okf gx ?_))))))))))))
  · rw [tle, e11, hP, tl20]
    omega
  by_cases c1 : P = 0
  · exact okt (by rw [tle, e11, hP, tl0]; omega) (okf gx (key _ (l1 (by omega)).symm))
  · obtain ⟨m1, m2⟩ := l2 (by omega)
    exact okf (by rw [tle, e11, hP, tl0]; omega) (okf gx (okf (gd (by omega) (by omega)) (key _ m2.symm)))
theorem owe_punch {N : Nat} (hN : 30 < N) : Owe_punch N := by
  intro σ τ x c w hR
  have hI := hR.2
  have hE := hI.2.2.2.1
  unfold f_X9_punch
  by_cases hx : isR τ x
  · obtain ⟨n, i, hn, hxi, hi, n24⟩ := who hE hx
    rw [needR_yes hR.1 hx, if_pos rfl]
    by_cases hc : isC τ c
    · rw [needC_yes hR.1 hc, if_pos rfl]
      have hA := RF_of hI (i := i) (by omega)
      have hpi := hI.2.2.2.2.2.1 i
      have hp20 : (gget σ 20 x).toInt = (τ.1 11 i).toInt := by
        rw [gget_in (by omega) (by rw [len30.2.2.2.2.2.2.1]; omega), hR.1.1.2.2.2.2.2.2.2.2.1, hxi]
        rfl
      have stop : ∀ e : τ.2 4 = 0 ∨ 20 ≤ (τ.1 11 i).toInt, Agr (fun k => k = 0 ∨ k = 1 ∨ k = 3 ∨ k = 2) f_L_punch vI (if f_X9_needState 0 = 0 then
            if f_X9_needRange w (f_X3_earliestPunch σ x) 9999 = 0 then
              (f_X5_reckon N (f_X3_addPunch σ x c w)).bind (fun (s_70 : gSt) =>
              some (0, f_X5_countedPunches s_70 x, s_70))
            else
              some (f_X9_needRange w (f_X3_earliestPunch σ x) 9999, 0, σ)
          else
            some (f_X9_needState 0, 0, σ)) (f_X10_punch N τ x c w) := by
        intro e
        obtain ⟨q, e2, rfl⟩ := punch_2 (N := N) (w := w) hI hx hc hxi (by omega) e
        rw [state0, if_neg (by decide), e2]
        exact Agr.no hR (by decide) (Or.inr (Or.inr (Or.inl rfl))) rfl
      by_cases c1 : τ.2 4 = 0
      · refine (congrArg (fun o => Agr (fun k => k = 0 ∨ k = 1 ∨ k = 3 ∨ k = 2) f_L_punch vI o (f_X10_punch N τ x c w)) (if_pos (drawn_z hR ▸ c1))).mpr ?_
        exact stop (Or.inl c1)
      · refine (congrArg (fun o => Agr (fun k => k = 0 ∨ k = 1 ∨ k = 3 ∨ k = 2) f_L_punch vI o (f_X10_punch N τ x c w)) (if_neg (drawn_z hR ▸ c1))).mpr ?_
        by_cases c2 : 20 ≤ (τ.1 11 i).toInt
        · refine (congrArg (fun o => Agr (fun k => k = 0 ∨ k = 1 ∨ k = 3 ∨ k = 2) f_L_punch vI o (f_X10_punch N τ x c w)) (if_pos (show 20 ≤ f_X3_punchCount σ x by unfold f_X3_punchCount; rw [tle, hp20, tl20]; exact c2))).mpr ?_
          exact stop (Or.inr c2)
        · refine (congrArg (fun o => Agr (fun k => k = 0 ∨ k = 1 ∨ k = 3 ∨ k = 2) f_L_punch vI o (f_X10_punch N τ x c w)) (if_neg (show ¬ 20 ≤ f_X3_punchCount σ x by unfold f_X3_punchCount; rw [tle, hp20, tl20]; exact c2))).mpr ?_
          show Agr _ _ _ (if f_X9_needState 1 = 0 then _ else _) _
          rw [state1, if_pos rfl, early_c hR hA hxi (by omega)]
          obtain ⟨P, hP⟩ : ∃ P : Nat, (τ.1 11 i).toInt = P := ⟨(τ.1 11 i).toInt.toNat, by omega⟩
          by_cases hr : (lstF (cor τ) i).toInt ≤ w.toInt ∧ w.toInt ≤ 9999
          · rw [need_yes (x := w) hr.1 (by rw [tl9999]; exact hr.2), if_pos rfl]
            have hpR : pR (cor τ) i = P := by
              have := hA.2.2.2.2.2.2.2.2.1
              rw [cor_at (by decide), hP] at this
              omega
            obtain ⟨r1, r2, r3, r4, r5, r6, r7, r8, r9, r10, r11, r12, r13⟩ := id hA
            have q8 : cor τ 8 i = τ.1 8 i := by rw [cor_at (by decide)]
            have q10 : ∀ j, cor τ 10 j = τ.1 10 j := fun j => by rw [cor_at (by decide)]
            have hlw : ∀ j, j < P → (τ.1 10 (20 * i + j)).toInt ≤ w.toInt := fun j hj => by
              have hl := hr.1
              unfold lstF at hl
              rw [if_neg (by omega), q10, hpR] at hl
              by_cases e : j = P - 1
              · rw [e]; exact hl
              · have := r12 j (P - 1) (by omega) (by omega)
                rw [q10, q10] at this
                omega
            have h8w : (τ.1 8 i).toInt ≤ w.toInt := by
              by_cases e : P = 0
              · have hl := hr.1
                unfold lstF at hl
                rw [if_pos (by omega), q8] at hl
                exact hl
              · have := (r11 0 (by omega)).2.1
                rw [q8, q10] at this
                have := hlw 0 (by omega)
                omega
            have hRp : Rel (sPun σ i P c w) (tPun (g_sf τ 6 0) i P c w) := rel_pun (hR.six (x := 0)) (by omega) hP (by omega) c1 hc h8w hlw hr.2
            rw [add_c hR hxi (by omega) hP (by omega)]
            obtain ⟨s, e1, hC⟩ := reckon_c (N := N) hRp hN (n := n) hn
            obtain ⟨⟨b, t⟩, e2, _, hM⟩ := goes_m (N := N) hRp.2 hN hxi (by show (i : Int) < (τ.2 3).toInt; omega)
            obtain ⟨q, e3, hq⟩ := punch_34 (N := N) (w := w) (R := fun q => q = (t.2 5, t)) hI hx hc hxi (by omega) (by omega) hP (by omega) c1 (fun e => absurd hr e) (fun _ => by
              rw [e2, Option.bind_some]
              exact Ok.some rfl)
            rw [e1, Option.bind_some, e3, hq]
            refine Agr.yes (hRp.keep hC.1.kc hM.1) (Or.inl rfl) ((hM.1.2 6 (Or.inr rfl)).trans rfl) ?_
            show t.2 5 = gget s 25 x
            rw [gget_in (by omega) (by rw [len5.2.2.1]; omega), hxi, teq]
            exact hM.2.2.trans (hC.2 i hi).1.symm
          · rw [need_no (x := w) (by rw [tl9999]; omega), if_neg (by decide)]
            obtain ⟨q, e3, hq⟩ := punch_34 (N := N) (w := w) (R := fun q => q = (0, g_sf τ 6 3)) hI hx hc hxi (by omega) (by omega) hP (by omega) c1 (fun _ => rfl) (fun e => absurd e hr)
            rw [e3, hq]
            exact Agr.no hR (by decide) (Or.inr (Or.inr (Or.inr rfl))) rfl
    · obtain ⟨q, e2, rfl⟩ := punch_1 (N := N) (c := c) (w := w) hI (fun e => hc e.2)
      rw [needC_no hR.1 hc, if_neg onen, e2]
      exact Agr.no hR (by decide) (Or.inr (Or.inl rfl)) rfl
  · obtain ⟨q, e2, rfl⟩ := punch_1 (N := N) (c := c) (w := w) hI (fun e => hx e.1)
    rw [needR_no hR.1 hx, if_neg onen, e2]
    exact Agr.no hR (by decide) (Or.inr (Or.inl rfl)) rfl
