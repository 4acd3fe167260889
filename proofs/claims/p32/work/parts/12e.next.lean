/-! ===== pure: the class goes to the next order, and reorders ===== -/
theorem next_o {s : gSt} {N m t : Nat} {A : Nat → Int32} (hN : 200 < N) (h5 : (s.2 5).toInt = m + 2) (hm : m < 5) (hA : srt m A) (ht : t < nT m) (h14 : eqR (m + 2) (s.1 14) (ordR m A t)) : Ok (fun (q : Int32 × gSt) => (t + 1 < nT m ∧ q.1 = 1 ∧ Kq s q.2 ∧ eqR (m + 2) (q.2.1 14) (ordR m A (t + 1))) ∨ (¬ t + 1 < nT m ∧ q.1 = 0 ∧ q.2 = s)) (f_X4_goToNextOrder N s) := by
  have hin := pT_in m hm t ht
  have e3 : (s.2 5 - 3).toInt = m - 1 := by rw [tsub (by rw [h5, tl3]; omega), h5, tl3]; omega
  have e2 : (s.2 5 - 2).toInt = m := by rw [tsub (by rw [h5, tl2]; omega), h5, tl2]; omega
  have mid : ∀ j, 1 ≤ j → j ≤ m → s.1 14 j = A (pT m t j) := fun j h1 h2 => by
    have := h14 j (by omega)
    rw [this]
    exact if_pos ⟨h1, h2⟩
  have inn : ∀ j, 1 ≤ j → j ≤ m → 1 ≤ pT m t j ∧ pT m t j ≤ m := fun j h1 h2 => by
    have := hin (j - 1) (by omega)
    rw [show j - 1 + 1 = j by omega] at this
    exact this
  have cmp : ∀ i j, 1 ≤ i → i ≤ m → 1 ≤ j → j ≤ m → (s.1 14 i ≤ s.1 14 j ↔ pT m t i ≤ pT m t j) := fun i j i1 i2 j1 j2 => by
    rw [mid i i1 i2, mid j j1 j2, tle]
    have a := inn i i1 i2
    have b := inn j j1 j2
    rcases Nat.lt_trichotomy (pT m t i) (pT m t j) with c | c | c
    · have := hA _ _ a.1 c b.2
      exact ⟨fun _ => by omega, fun _ => by omega⟩
    · rw [c]
      exact ⟨fun _ => Nat.le_refl _, fun _ => Int.le_refl _⟩
    · have := hA _ _ b.1 c a.2
      exact ⟨fun _ => by omega, fun _ => by omega⟩
  unfold f_X4_goToNextOrder
  refine gLoop1_ok (fun n (v : Int32) => v.toInt = -1 ∧ m = 0 ∨ ∃ k : Nat, v.toInt = k ∧ k + 1 ≤ m ∧ n = k ∧ tF (pT m t) k = tF (pT m t) (m - 1)) ?_ N (m - 1) _ (by omega) ?_
  · intro n v self hL ih
    have stop : v.toInt < 1 → tF (pT m t) (m - 1) = 0 ∨ m = 0 → Ok (fun (q : Int32 × gSt) => (t + 1 < nT m ∧ q.1 = 1 ∧ Kq s q.2 ∧ eqR (m + 2) (q.2.1 14) (ordR m A (t + 1))) ∨ (¬ t + 1 < nT m ∧ q.1 = 0 ∧ q.2 = s)) (some (0, s)) := fun _ h0 => Ok.some (Or.inr ⟨fun h => by
      obtain ⟨⟨g1, g2⟩, -, -⟩ := next_p m hm t ht h
      rcases h0 with h0 | h0
      · omega
      · omega, rfl, rfl⟩)
    refine ok0 ?_
    rcases hL with ⟨h1, h2⟩ | ⟨k, hv, hk, hn, htF⟩
    · exact okt (by rw [tlt, h1, tl1]; omega) (okf (by rw [tle, h1, tl1]; omega) (stop (by omega) (Or.inr h2)))
    · by_cases k0 : k = 0
      · subst k0
        exact okt (by rw [tlt, hv, tl1]; omega) (okf (by rw [tle, hv, tl1]; omega) (stop (by omega) (Or.inl htF.symm)))
      · obtain ⟨k', rfl⟩ : ∃ k', k = k' + 1 := ⟨k - 1, by omega⟩
        have e1 := inc1 (v := v) (n := 6) (by omega) (by omega)
        refine okf (by rw [tlt, hv, tl1]; omega) ?_
        rw [get14 hv (by omega), get14 (j := k' + 2) (by omega) (by omega)]
        have hd : tF (pT m t) (k' + 1) = if pT m t (k' + 1) ≤ pT m t (k' + 2) then k' + 1 else tF (pT m t) k' := rfl
        by_cases c1 : s.1 14 (k' + 1) ≤ s.1 14 (k' + 2)
        · have c1' := (cmp (k' + 1) (k' + 2) (by omega) (by omega) (by omega) (by omega)).mp c1
          rw [if_pos c1'] at hd
          rw [hd] at htF
          have hnx : t + 1 < nT m := Classical.byContradiction (fun h => by
            have := last_p m hm t ht h
            omega)
          obtain ⟨⟨g1, g2⟩, ⟨g3, g4⟩, g5⟩ := next_p m hm t ht hnx
          refine okt c1 (okt (by rw [tle, hv, tl1]; omega) ?_)
          unfold nxF at g5
          rw [← htF] at g1 g2 g3 g4 g5
          refine gLoop1_ok (fun n (v2 : Int32) => ∃ g : Nat, v2.toInt = g ∧ k' + 1 < g ∧ g ≤ m ∧ n = g ∧ gF (pT m t) (k' + 1) g = gF (pT m t) (k' + 1) m) ?_ N m _ (by omega) ⟨m, e2, by omega, by omega, rfl, rfl⟩
          intro n2 v2 self2 ⟨g, hg, hg1, hg2, hn2, hgF⟩ ih2
          obtain ⟨g', rfl⟩ : ∃ g', g = g' + 1 := ⟨g - 1, by omega⟩
          have hgd : gF (pT m t) (k' + 1) (g' + 1) = if g' + 1 ≤ k' + 1 then g' + 1 else if pT m t (k' + 1) ≤ pT m t (g' + 1) then g' + 1 else gF (pT m t) (k' + 1) g' := rfl
          rw [if_neg (by omega)] at hgd
          refine ok0 (okf (by rw [tle, hg, hv]; omega) ?_)
          rw [get14 hg (by omega)]
          by_cases c2 : s.1 14 (k' + 1) ≤ s.1 14 (g' + 1)
          · have c2' := (cmp (k' + 1) (g' + 1) (by omega) (by omega) (by omega) (by omega)).mp c2
            rw [if_pos c2'] at hgd
            rw [hgd] at hgF
            rw [← hgF] at g5
            refine okt c2 ?_
            rw [swap_c hv (by omega) hg (by omega)]
            have f5 : (g_sa s 14 (swp (s.1 14) (k' + 1) (g' + 1))).2 5 = s.2 5 := rfl
            rw [f5]
            have fin : ∀ u B, u = g_sa s 14 B → (∀ j, 1 ≤ j → j ≤ m → B j = A ((if k' + 1 + 1 < m then swp (swp (pT m t) (k' + 1) (g' + 1)) (k' + 1 + 1) m else swp (pT m t) (k' + 1) (g' + 1)) j)) → B 0 = s.1 14 0 → B (m + 1) = s.1 14 (m + 1) → Ok (fun (q : Int32 × gSt) => (t + 1 < nT m ∧ q.1 = 1 ∧ Kq s q.2 ∧ eqR (m + 2) (q.2.1 14) (ordR m A (t + 1))) ∨ (¬ t + 1 < nT m ∧ q.1 = 0 ∧ q.2 = s)) (some (1, u)) := fun u B hu hB h0 h1 => Ok.some (Or.inl ⟨hnx, rfl, by rw [hu]; exact Kq.rf.sa, fun j hj => by
              show u.1 14 j = _
              rw [hu, sa_1, if_pos rfl]
              match j, hj with
              | 0, _ => rw [h0, h14 0 (by omega), ordR_0, ordR_0]
              | j + 1, hj =>
                by_cases e : j < m
                · rw [hB (j + 1) (by omega) (by omega), ordR_mid e, g5 j e]
                · rw [show j = m by omega, h1, h14 (m + 1) (by omega), ordR_last, ordR_last]⟩)
            have sw : ∀ j, 1 ≤ j → j ≤ m → swp (s.1 14) (k' + 1) (g' + 1) j = A (swp (pT m t) (k' + 1) (g' + 1) j) := fun j j1 j2 => by
              unfold swp
              by_cases e : j = g' + 1
              · rw [if_pos e, if_pos e]; exact mid _ (by omega) (by omega)
              · rw [if_neg e, if_neg e]
                by_cases e2 : j = k' + 1
                · rw [if_pos e2, if_pos e2]; exact mid _ (by omega) (by omega)
                · rw [if_neg e2, if_neg e2]; exact mid _ j1 j2
            have s0 : swp (s.1 14) (k' + 1) (g' + 1) 0 = s.1 14 0 := by
              unfold swp
              rw [if_neg (by omega), if_neg (by omega)]
            have s1 : swp (s.1 14) (k' + 1) (g' + 1) (m + 1) = s.1 14 (m + 1) := by
              unfold swp
              rw [if_neg (by omega), if_neg (by omega)]
            have q1 : (v + 1).toInt = (k' + 2 : Nat) := by omega
            refine gLoop3_ok (fun n (v3 v4 : Int32) (u : gSt) => (n = 1 ∧ v3.toInt = m ∧ v4.toInt = (k' + 2 : Nat) ∧ u = g_sa s 14 (swp (s.1 14) (k' + 1) (g' + 1))) ∨ (n = 0 ∧ v3.toInt = m - 1 ∧ v4.toInt = (k' + 3 : Nat) ∧ k' + 1 + 1 < m ∧ u = g_sa s 14 (swp (swp (s.1 14) (k' + 1) (g' + 1)) (k' + 1 + 1) m))) ?_ N 1 _ _ _ (by omega) (Or.inl ⟨rfl, e2, q1, rfl⟩)
            intro n3 v3 v4 u self3 hL3 ih3
            rcases hL3 with ⟨rfl, h3, h4, hu⟩ | ⟨rfl, h3, h4, hlt, hu⟩
            · by_cases c3 : v3 ≤ v4
              · refine okt c3 (fin u _ hu (fun j j1 j2 => ?_) s0 s1)
                rw [tle, h3, h4] at c3
                rw [if_neg (by omega)]
                exact sw j j1 j2
              · refine okf c3 ?_
                rw [tle, h3, h4] at c3
                have e4 := inc1 (v := v4) (n := 6) (by omega) (by omega)
                rw [swap_c h4 (by omega) h3 (by omega), hu, sa_1, if_pos rfl, sa_sa]
                exact ih3 0 _ _ _ (by omega) (Or.inr ⟨rfl, by rw [tadd (by rw [tlm1]; omega), tlm1, h3]; omega, by omega, by omega, rfl⟩)
            · refine okt (by rw [tle, h3, h4]; omega) (fin u _ hu (fun j j1 j2 => ?_) ?_ ?_)
              · rw [if_pos hlt]
                show (if j = m then swp (s.1 14) (k' + 1) (g' + 1) (k' + 1 + 1) else if j = k' + 1 + 1 then swp (s.1 14) (k' + 1) (g' + 1) m else swp (s.1 14) (k' + 1) (g' + 1) j) = A (if j = m then swp (pT m t) (k' + 1) (g' + 1) (k' + 1 + 1) else if j = k' + 1 + 1 then swp (pT m t) (k' + 1) (g' + 1) m else swp (pT m t) (k' + 1) (g' + 1) j)
                by_cases e : j = m
                · rw [if_pos e, if_pos e]; exact sw _ (by omega) (by omega)
                · rw [if_neg e, if_neg e]
                  by_cases e2 : j = k' + 1 + 1
                  · rw [if_pos e2, if_pos e2]; exact sw _ (by omega) (by omega)
                  · rw [if_neg e2, if_neg e2]; exact sw _ j1 j2
              · show (if 0 = m then _ else if 0 = k' + 1 + 1 then _ else _) = _
                rw [if_neg (by omega), if_neg (by omega)]
                exact s0
              · show (if m + 1 = m then _ else if m + 1 = k' + 1 + 1 then _ else _) = _
                rw [if_neg (by omega), if_neg (by omega)]
                exact s1
          · have c2' : ¬ pT m t (k' + 1) ≤ pT m t (g' + 1) := fun h => c2 ((cmp (k' + 1) (g' + 1) (by omega) (by omega) (by omega) (by omega)).mpr h)
            rw [if_neg c2'] at hgd
            have hgg : gF (pT m t) (k' + 1) g' = gF (pT m t) (k' + 1) m := by rw [← hgd]; exact hgF
            have hgt : k' + 1 < g' := by
              rcases Nat.lt_or_ge (k' + 1) g' with q | q
              · exact q
              · exfalso
                have e : g' = k' + 1 := by omega
                have : gF (pT m t) (k' + 1) (k' + 1) = k' + 1 := if_pos (Nat.le_refl _)
                rw [e, this] at hgg
                omega
            exact okf c2 (ih2 (n2 - 1) (v2 + (-1)) (by omega) ⟨g', by rw [tadd (by rw [tlm1]; omega), tlm1, hg]; omega, hgt, by omega, by omega, hgg⟩)
        · have c1' : ¬ pT m t (k' + 1) ≤ pT m t (k' + 2) := fun h => c1 ((cmp (k' + 1) (k' + 2) (by omega) (by omega) (by omega) (by omega)).mpr h)
          rw [if_neg c1'] at hd
          exact okf c1 (ih (n - 1) (v + (-1)) (by omega) (Or.inr ⟨k', by rw [tadd (by rw [tlm1]; omega), tlm1, hv]; omega, by omega, by omega, by rw [← hd]; exact htF⟩))
  · by_cases c : m = 0
    · exact Or.inl ⟨by rw [e3, c]; rfl, c⟩
    · exact Or.inr ⟨m - 1, by rw [e3]; omega, by omega, rfl, rfl⟩
