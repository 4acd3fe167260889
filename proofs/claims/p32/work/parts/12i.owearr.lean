/-! ===== pure: arrange, both sides ===== -/
theorem arr_1 {τ : gSt} {N : Nat} {x w : Int32} (h : ¬ isK x) : Ok (fun (q : Int32 × gSt) => q = (0, g_sf τ 6 1)) (f_X10_arrange N τ x w) := by
  unfold f_X10_arrange
  rw [klass_no h]
  refine okz ?_
  by_cases hd : τ.2 4 = 0
  · exact okt hd (okt (by rw [asked3_0]) (Ok.some (by rw [asked3_0])))
  · exact okf hd (okt (by rw [asked3_0]) (Ok.some (by rw [asked3_0])))
theorem arr_2 {τ : gSt} {N : Nat} {x w : Int32} (h : isK x) (h2 : ¬ (0 ≤ w.toInt ∧ w.toInt ≤ 9999)) : Ok (fun (q : Int32 × gSt) => q = (0, g_sf τ 6 2)) (f_X10_arrange N τ x w) := by
  unfold f_X10_arrange
  rw [klass_yes h, in_no (x := w) (a := 0) (b := 9999) (by rw [tl0, tl9999]; omega)]
  refine okz ?_
  by_cases hd : τ.2 4 = 0
  · exact okt hd (okt (by rw [asked3_1 one_ne]) (Ok.some (by rw [asked3_1 one_ne])))
  · exact okf hd (okt (by rw [asked3_1 one_ne]) (Ok.some (by rw [asked3_1 one_ne])))
theorem arr_3 {τ : gSt} {N : Nat} {x w : Int32} (h : isK x) (h2 : 0 ≤ w.toInt ∧ w.toInt ≤ 9999) (hd : τ.2 4 ≠ 0) : Ok (fun (q : Int32 × gSt) => q = (0, g_sf τ 6 3)) (f_X10_arrange N τ x w) := by
  unfold f_X10_arrange
  rw [klass_yes h, in_yes (x := w) (a := 0) (b := 9999) (by rw [tl0]; exact h2.1) (by rw [tl9999]; exact h2.2)]
  exact okz (okf hd (okt (by rw [asked3_2 one_ne one_ne]) (Ok.some (by rw [asked3_2 one_ne one_ne]))))
theorem arr_4 {τ : gSt} {N c : Nat} {x w : Int32} {P : Int32 × gSt → Prop} (hI : Inv τ) (hN : 1000000000000000000000 < N) (h : isK x) (hx : x.toInt = c) (hc : c < 5) (h2 : 0 ≤ w.toInt ∧ w.toInt ≤ 9999) (hd : τ.2 4 = 0) (go : ∀ t, (Km (g_sf τ 6 0) t ∧ (ln (g_sf τ 6 0) c < 4 ∨ noB N (g_sf τ 6 0) c (ln (g_sf τ 6 0) c))) ∨ (4 ≤ ln (g_sf τ 6 0) c ∧ ∃ b, isB N (g_sf τ 6 0) w c (ln (g_sf τ 6 0) c) b ∧ MB c (ln (g_sf τ 6 0) c) b (g_sf τ 6 0) t) → Ok P ((f_X10_sumOfCourse N t x 1).bind (fun (q : Int32 × gSt) => some (q.1, q.2)))) : Ok P (f_X10_arrange N τ x w) := by
  have hI0 : Inv (g_sf τ 6 0) := hI
  obtain ⟨l1, l2, l3⟩ := crs_in hI0 hc
  have e5 : g_ga (g_sf τ 6 0) 5 x = (g_sf τ 6 0).1 5 c := ga_at hx
  unfold f_X10_arrange
  rw [klass_yes h, in_yes (x := w) (a := 0) (b := 9999) (by rw [tl0]; exact h2.1) (by rw [tl9999]; exact h2.2)]
  refine okz (okt hd (okf (by rw [asked3_3 one_ne one_ne one_ne]; exact one_ne) (okf (gd (by omega) (by omega)) ?_)))
  rw [asked3_3 one_ne one_ne one_ne]
  refine okz ?_
  by_cases c4 : g_ga (g_sf τ 6 0) 5 x = 4
  · refine okt c4 (codes_m hI0 hN hx hc h2 e5 (Or.inr ⟨2, ?_, by decide, by decide, rfl⟩) go)
    rw [e5, teq, l1, tl4] at c4
    show ln (g_sf τ 6 0) c = 2 + 2
    omega
  · refine okf c4 ?_
    by_cases c5 : g_ga (g_sf τ 6 0) 5 x = 5
    · refine okt c5 (codes_m hI0 hN hx hc h2 e5 (Or.inr ⟨3, ?_, by decide, by decide, rfl⟩) go)
      rw [e5, teq, l1, tl5] at c5
      show ln (g_sf τ 6 0) c = 3 + 2
      omega
    · refine okf c5 ?_
      by_cases c6 : g_ga (g_sf τ 6 0) 5 x = 6
      · refine okt c6 (codes_m hI0 hN hx hc h2 e5 (Or.inr ⟨4, ?_, by decide, by decide, rfl⟩) go)
        rw [e5, teq, l1, tl6] at c6
        show ln (g_sf τ 6 0) c = 4 + 2
        omega
      · refine okf c6 (codes_m hI0 hN hx hc h2 e5 (Or.inl ⟨?_, rfl⟩) go)
        rw [e5, teq, l1, tl4] at c4
        rw [e5, teq, l1, tl5] at c5
        rw [e5, teq, l1, tl6] at c6
        show ln (g_sf τ 6 0) c < 4
        omega
theorem rel_arr {σ τ s t : gSt} {c : Nat} {b b' : Nat → Int32} (hR : Rel σ τ) (hc : c < 5) (h2 : 2 ≤ ln τ c) (hs : RB c (ln τ c) b σ s) (ht : MB c (ln τ c) b' τ t) (he : eqR (ln τ c) b b') (hA : RA (ln τ c - 2) b' (oC τ c)) : Rel s t := by
  obtain ⟨l1, l2, l3⟩ := crs_in hR.2 hc
  obtain ⟨⟨⟨a1, a2, a3, a4, a5, a6, a7, a8, a9, a10, a11⟩, q2, b1, b2, b3, b4, b5⟩, iT, iC, iV, iE, iS, iP⟩ := hR
  obtain ⟨s1, s2, s3, s4⟩ := hs
  obtain ⟨t1, t2, t3, t4⟩ := ht
  have S1 : ∀ r, ck r → r ≠ 10 → s.1 r = σ.1 r := s1
  have T1 : ∀ r, r ≤ 11 → r ≠ 4 → t.1 r = τ.1 r := t1
  obtain ⟨A1, A2, A3, A4, A5⟩ := hA
  have hd : ∀ i j, i < j → j < ln τ c → oC τ c i ≠ oC τ c j := fun i j h1 h2 => iV.2.2 c i j hc h1 (by omega)
  -- each entry of b' stands in the course, at a place of its own
  have ent : ∀ j, j < ln τ c → ∃ i, i < ln τ c ∧ b' j = oC τ c i := fun j hj => by
    match j, hj with
    | 0, _ => exact ⟨0, by omega, A1⟩
    | j + 1, hj =>
      by_cases e : j < ln τ c - 2
      · obtain ⟨i, i1, i2⟩ := A3 j e
        exact ⟨i + 1, by omega, i2⟩
      · refine ⟨ln τ c - 2 + 1, by omega, ?_⟩
        rw [show j = ln τ c - 2 by omega]
        exact A2
  have mids : ∀ j, 1 ≤ j → j + 1 < ln τ c → ∃ i, 1 ≤ i ∧ i + 1 < ln τ c ∧ b' j = oC τ c i := fun j h1 h3 => by
    obtain ⟨i, i1, i2⟩ := A3 (j - 1) (by omega)
    rw [show j - 1 + 1 = j by omega] at i2
    exact ⟨i + 1, by omega, by omega, i2⟩
  have oinj : ∀ i j, i < ln τ c → j < ln τ c → oC τ c i = oC τ c j → i = j := fun i j hi hj e => by
    rcases Nat.lt_trichotomy i j with q | q | q
    · exact absurd e (hd i j q hj)
    · exact q
    · exact absurd e.symm (hd j i q hi)
  have dist : ∀ i j, i < j → j < ln τ c → b' i ≠ b' j := fun i j h1 h3 e => by
    by_cases i0 : i = 0
    · subst i0
      by_cases jl : j + 1 = ln τ c
      · rw [A1, show j = ln τ c - 2 + 1 by omega, A2] at e
        have := oinj _ _ (by omega) (by omega) e
        omega
      · obtain ⟨k, k1, k2, k3⟩ := mids j (by omega) (by omega)
        rw [A1, k3] at e
        have := oinj _ _ (by omega) (by omega) e
        omega
    · by_cases jl : j + 1 = ln τ c
      · obtain ⟨k, k1, k2, k3⟩ := mids i (by omega) (by omega)
        rw [k3, show j = ln τ c - 2 + 1 by omega, A2] at e
        have := oinj _ _ (by omega) (by omega) e
        omega
      · have := A5 (i - 1) (j - 1) (by omega) (by omega) (by rw [show i - 1 + 1 = i by omega, show j - 1 + 1 = j by omega]; exact e)
        omega
  have f5 : t.1 5 = τ.1 5 := T1 5 (by decide) (by decide)
  have f2 : t.2 2 = τ.2 2 := t2 2 (by decide)
  have other : ∀ c' j, c' < 5 → c' ≠ c → j < 6 → t.1 4 (6 * c' + j) = τ.1 4 (6 * c' + j) := fun c' j h1 h3 h4 => t4 _ (by omega)
  refine ⟨⟨⟨(S1 0 (by unfold ck; decide) (by decide)).trans (a1.trans (T1 0 (by decide) (by decide)).symm), (S1 1 (by unfold ck; decide) (by decide)).trans (a2.trans (T1 1 (by decide) (by decide)).symm), (S1 8 (by unfold ck; decide) (by decide)).trans (a3.trans (T1 2 (by decide) (by decide)).symm), (S1 9 (by unfold ck; decide) (by decide)).trans (a4.trans (T1 3 (by decide) (by decide)).symm), funext fun j => ?_, (S1 11 (by unfold ck; decide) (by decide)).trans (a6.trans f5.symm), (S1 16 (by unfold ck; decide) (by decide)).trans (a7.trans (T1 6 (by decide) (by decide)).symm), (S1 17 (by unfold ck; decide) (by decide)).trans (a8.trans (T1 7 (by decide) (by decide)).symm), (S1 20 (by unfold ck; decide) (by decide)).trans (a9.trans (T1 11 (by decide) (by decide)).symm), (S1 21 (by unfold ck; decide) (by decide)).trans (a10.trans (T1 9 (by decide) (by decide)).symm), (S1 22 (by unfold ck; decide) (by decide)).trans (a11.trans (T1 10 (by decide) (by decide)).symm)⟩, fun k hk => ?_, (s2 0 (by unfold cf; decide)).trans (b1.trans (t2 0 (by decide)).symm), (s2 1 (by unfold cf; decide)).trans (b2.trans (t2 1 (by decide)).symm), (s2 4 (by unfold cf; decide)).trans (b3.trans f2.symm), (s2 10 (by unfold cf; decide)).trans (b4.trans (t2 3 (by decide)).symm), (s2 11 (by unfold cf; decide)).trans (b5.trans (t2 4 (by decide)).symm)⟩, ?_, ?_, ?_, ?_, ?_, ?_⟩
  · by_cases q : 6 * c ≤ j ∧ j < 6 * c + ln τ c
    · obtain ⟨j', rfl⟩ : ∃ j', j = 6 * c + j' := ⟨j - 6 * c, by omega⟩
      rw [s3 j' (by omega), t3 j' (by omega)]
      exact he j' (by omega)
    · rw [s4 j (by omega), t4 j (by omega), a5]
  · rw [t2 3 (by decide)] at hk
    rw [S1 19 (by unfold ck; decide) (by decide), T1 8 (by decide) (by decide)]
    exact q2 k hk
  · unfold InvT
    rw [T1 0 (by decide) (by decide), T1 1 (by decide) (by decide), t2 0 (by decide), t2 1 (by decide)]
    exact iT
  · unfold InvC
    rw [T1 2 (by decide) (by decide), T1 3 (by decide) (by decide), t2 0 (by decide), t2 1 (by decide), f2]
    exact iC
  · unfold InvV
    rw [f5, f2]
    have len6 : ∀ c', (τ.1 5 c').toInt ≤ 6 := fun c' => (iV.1 c').2
    refine ⟨iV.1, fun c' j h1 h3 => ?_, fun c' i j h1 h3 h4 => ?_⟩
    · by_cases e : c' = c
      · subst e
        rw [t3 j (by omega)]
        obtain ⟨i, i1, i2⟩ := ent j (by omega)
        rw [i2]
        exact iV.2.1 c' i h1 (by omega)
      · have := len6 c'
        rw [other c' j h1 e (by omega)]
        exact iV.2.1 c' j h1 h3
    · by_cases e : c' = c
      · subst e
        rw [t3 i (by omega), t3 j (by omega)]
        exact dist i j h3 (by omega)
      · have := len6 c'
        rw [other c' i h1 e (by omega), other c' j h1 e (by omega)]
        exact iV.2.2 c' i j h1 h3 h4
  · unfold InvE
    rw [f5, T1 6 (by decide) (by decide), T1 7 (by decide) (by decide), t2 3 (by decide)]
    exact iE
  · unfold InvS
    rw [T1 8 (by decide) (by decide), t2 3 (by decide), t2 4 (by decide)]
    exact iS
  · unfold InvP
    rw [T1 8 (by decide) (by decide), T1 9 (by decide) (by decide), T1 10 (by decide) (by decide), T1 11 (by decide) (by decide), f2, t2 4 (by decide)]
    exact iP
theorem owe_arrange {N : Nat} (hN : 1000000000000000000000 < N) : Owe_arrange N := by
  intro σ τ x w hR
  unfold f_X9_arrange
  by_cases h : isK x
  · rw [needK_yes h, if_pos rfl]
    by_cases h2 : 0 ≤ w.toInt ∧ w.toInt ≤ 9999
    · rw [need_yes (x := w) (a := 0) (b := 9999) (by rw [tl0]; exact h2.1) (by rw [tl9999]; exact h2.2), if_pos rfl]
      by_cases hd : τ.2 4 = 0
      · have hR6 := hR.six (x := 0)
        have hxc : x.toInt = (x.toInt.toNat : Nat) := by have := h.1; omega
        have hc5 : x.toInt.toNat < 5 := by have := h.2; omega
        generalize x.toInt.toNat = c at hxc hc5
        obtain ⟨l1, l2, l3⟩ := crs_in hR6.2 hc5
        obtain ⟨s, e1, hC⟩ := reorder_c hR6 hN hxc hc5 h2
        have M : Ok (fun (q : Int32 × gSt) => ∃ s', f_X4_measure N s x = some s' ∧ Rel s' q.2 ∧ q.2.2 6 = 0 ∧ q.1 = s'.2 9) (f_X10_arrange N τ x w) := by
          refine arr_4 hR.2 hN h hxc hc5 h2 hd (fun t ht => ?_)
          have key : Rel s t ∧ t.2 6 = 0 := by
            rcases hC with ⟨hK, hno⟩ | ⟨hL2, b, hb, hRB⟩
            · rcases ht with ⟨hKm, _⟩ | ⟨h4, b', hb', _⟩
              · exact ⟨hR6.keep hK hKm, six0 hKm⟩
              · rcases hno with g | g
                · omega
                · exact absurd hb'.2.1 (g b' hb'.1)
            · rcases ht with ⟨hKm, hno⟩ | ⟨h4, b', hb', hMB⟩
              · refine ⟨?_, six0 hKm⟩
                have hL4 : ln (g_sf τ 6 0) c < 4 := by
                  rcases hno with g | g
                  · exact g
                  · exact absurd hb.2.1 (g b hb.1)
                have hd2 : ∀ i j, i < j → j < ln (g_sf τ 6 0) c - 2 + 2 → oC (g_sf τ 6 0) c i ≠ oC (g_sf τ 6 0) c j := fun i j h1 h3 => hR6.2.2.2.1.2.2 c i j hc5 h1 (by omega)
                refine rel_arr hR6 hc5 hL2 hRB (b' := oC (g_sf τ 6 0) c) ⟨fun r hr _ => hKm.1 r hr, hKm.2, fun j hj => congrFun (hKm.1 4 (by decide)) _, fun j hj => congrFun (hKm.1 4 (by decide)) _⟩ (fun j hj => ?_) (RA.rf hd2)
                obtain ⟨A1, A2, A3, A4, A5⟩ := hb.1
                match j, hj with
                | 0, _ => exact A1
                | j + 1, hj =>
                  by_cases e : j < ln (g_sf τ 6 0) c - 2
                  · obtain ⟨i, i1, i2⟩ := A3 j e
                    rw [i2, show i = j by omega]
                  · rw [show j = ln (g_sf τ 6 0) c - 2 by omega]
                    exact A2
              · have he := (hb.2.2 b' hb'.1 hb'.2.1).anti (hb'.2.2 b hb.1 hb.2.1)
                exact ⟨rel_arr hR6 hc5 hL2 hRB hMB he hb'.1, (hMB.2.1 6 (Or.inr rfl)).trans (by rw [sf_2, if_pos rfl])⟩
          obtain ⟨hRt, h6⟩ := key
          obtain ⟨s', g1, hK', -, g9⟩ := course_c hRt hN hxc hc5
          refine (sumCourse_m (z := 1) hRt.2 Km.rf hN hxc hc5).bind (fun q hq => Ok.some ⟨s', g1, hRt.keep hK' hq.2, ?_, hq.1.trans g9.symm⟩)
          exact (hq.2.2 6 (Or.inr rfl)).trans h6
        obtain ⟨⟨b, t⟩, e2, s', g1, g2, g3, g4⟩ := M
        show Agr _ _ _ (if f_X3_areDrawn σ = 0 then (if f_X9_needState 1 = 0 then _ else _) else _) _
        rw [if_pos (by rw [drawn_z hR]; exact hd), state1, if_pos rfl, e1, Option.bind_some, g1, Option.bind_some, e2]
        exact Agr.yes g2 (Or.inl rfl) g3 g4
      · obtain ⟨q, e2, rfl⟩ := arr_3 (N := N) (τ := τ) h h2 hd
        show Agr _ _ _ (if f_X3_areDrawn σ = 0 then _ else (if f_X9_needState 0 = 0 then _ else _)) _
        rw [if_neg (by rw [drawn_z hR]; exact hd), state0, if_neg (by decide), e2]
        exact Agr.no hR (by decide) (Or.inr (Or.inr (Or.inr rfl))) rfl
    · obtain ⟨q, e2, rfl⟩ := arr_2 (N := N) (τ := τ) h h2
      rw [need_no (x := w) (by rw [tl0, tl9999]; omega), if_neg (by decide), e2]
      exact Agr.no hR (by decide) (Or.inr (Or.inr (Or.inl rfl))) rfl
  · obtain ⟨q, e2, rfl⟩ := arr_1 (N := N) (τ := τ) (w := w) h
    rw [needK_no h, if_neg onen, e2]
    exact Agr.no hR (by decide) (Or.inr (Or.inl rfl)) rfl
