/-! ===== pure: turned maps: arrange ===== -/
theorem rows_tp {τ t : gSt} {N L : Nat} {o : Nat → Int32} (hI : Inv τ) (hI' : Inv t) (hN : 1000000000000000000000 < N) (h : Tr τ t) (ho : ∀ j, j < L → isC τ (o j)) : rC N t o L = rC N τ o L ∧ rK N t o L = rK N τ o L := by
  have g := lg_tp hI hI' hN h ho
  exact ⟨sum_congr _ (fun m hm => ⟨(g m hm).1, (g m hm).1⟩), sum_congr _ (fun m hm => g m hm)⟩
theorem vl_tp {τ t : gSt} {N L : Nat} {o : Nat → Int32} (hI : Inv τ) (hI' : Inv t) (hN : 1000000000000000000000 < N) (h : Tr τ t) (ho : ∀ j, j < L → isC τ (o j)) : vl N t o L ↔ vl N τ o L := by
  unfold vl
  rw [(rows_tp hI hI' hN h ho).1]
theorem leR_tp {τ t : gSt} {N L : Nat} {w : Int32} {o p : Nat → Int32} (hI : Inv τ) (hI' : Inv t) (hN : 1000000000000000000000 < N) (h : Tr τ t) (ho : ∀ j, j < L → isC τ (o j)) (hp : ∀ j, j < L → isC τ (p j)) : leR N t w L o p ↔ leR N τ w L o p := by
  unfold leR btR sqR ofF
  rw [(rows_tp hI hI' hN h ho).1, (rows_tp hI hI' hN h ho).2, (rows_tp hI hI' hN h hp).1, (rows_tp hI hI' hN h hp).2]
theorem ra_ctl {τ : gSt} {c L : Nat} {b : Nat → Int32} (hI : Inv τ) (hc : c < 5) (hL : ln τ c = L) (h2 : 2 ≤ L) (hA : RA (L - 2) b (oC τ c)) : ∀ j, j < L → isC τ (b j) := by
  obtain ⟨l1, l2, l3⟩ := crs_in hI hc
  obtain ⟨A1, A2, A3, A4, A5⟩ := hA
  intro j hj
  match j, hj with
  | 0, _ => rw [A1]; exact l3 0 (by omega)
  | j + 1, hj =>
    by_cases e : j < L - 2
    · obtain ⟨i, i1, i2⟩ := A3 j e
      rw [i2]
      exact l3 (i + 1) (by omega)
    · rw [show j = L - 2 by omega, A2]
      exact l3 (L - 2 + 1) (by omega)
/-- what the reference's arrange gives, when nothing rules it out -/
def ArrU (N c : Nat) (w : Int32) (τ u : gSt) : Prop := (Km τ u ∧ (ln τ c < 4 ∨ noB N τ c (ln τ c))) ∨ (4 ≤ ln τ c ∧ ∃ b, isB N τ w c (ln τ c) b ∧ MB c (ln τ c) b τ u)
theorem arr_y {σ τ : gSt} {N c : Nat} {x w : Int32} (hR : Rel σ τ) (hN : 1000000000000000000000 < N) (h : isK x) (hxc : x.toInt = c) (hc5 : c < 5) (h2 : 0 ≤ w.toInt ∧ w.toInt ≤ 9999) (hd : τ.2 4 = 0) : Ok (fun (q : Int32 × gSt) => ∃ u, Inv u ∧ u.2 6 = 0 ∧ ArrU N c w (g_sf τ 6 0) u ∧ q.1 = tot2 N u 1 (oC u c) (ln u c) ∧ Km u q.2) (f_X10_arrange N τ x w) := by
  have hR6 := hR.six (x := 0)
  obtain ⟨l1, l2, l3⟩ := crs_in hR6.2 hc5
  obtain ⟨s, e1, hC⟩ := reorder_c hR6 hN hxc hc5 h2
  refine arr_4 hR.2 hN h hxc hc5 h2 hd (fun t ht => ?_)
  have key : Rel s t ∧ t.2 6 = 0 := by
    rcases hC with ⟨hK, hno⟩ | ⟨hL2, b, hb, hRB⟩
    · rcases ht with ⟨hKm, _⟩ | ⟨h4, b', hb', _⟩
      · exact ⟨hR6.keep hK hKm, six0 hKm⟩
      · rcases hno with g | g
        · omega
        · exact absurd hb'.2.1 (g b' hb'.1)
    · rcases ht with ⟨hKm, hno⟩ | ⟨h4, b', hb', hMB⟩
      · refine ⟨?_, six0 hKm⟩
        have hL4 : ln (g_sf τ 6 0) c < 4 := by
          rcases hno with g | g
          · exact g
          · exact absurd hb.2.1 (g b hb.1)
        have hd2 : ∀ i j, i < j → j < ln (g_sf τ 6 0) c - 2 + 2 → oC (g_sf τ 6 0) c i ≠ oC (g_sf τ 6 0) c j := fun i j h1 h3 => hR6.2.2.2.1.2.2 c i j hc5 h1 (by omega)
        refine rel_arr hR6 hc5 hL2 hRB (b' := oC (g_sf τ 6 0) c) ⟨fun r hr _ => hKm.1 r hr, hKm.2, fun j hj => congrFun (hKm.1 4 (by decide)) _, fun j hj => congrFun (hKm.1 4 (by decide)) _⟩ (fun j hj => ?_) (RA.rf hd2)
        obtain ⟨A1, A2, A3, A4, A5⟩ := hb.1
        match j, hj with
        | 0, _ => exact A1
        | j + 1, hj =>
          by_cases e : j < ln (g_sf τ 6 0) c - 2
          · obtain ⟨i, i1, i2⟩ := A3 j e
            rw [i2, show i = j by omega]
          · rw [show j = ln (g_sf τ 6 0) c - 2 by omega]
            exact A2
      · have he := (hb.2.2 b' hb'.1 hb'.2.1).anti (hb'.2.2 b hb.1 hb.2.1)
        exact ⟨rel_arr hR6 hc5 hL2 hRB hMB he hb'.1, (hMB.2.1 6 (Or.inr rfl)).trans (by rw [sf_2, if_pos rfl])⟩
  obtain ⟨hRt, h6⟩ := key
  exact (sumCourse_m (z := 1) hRt.2 Km.rf hN hxc hc5).bind (fun q hq => Ok.some ⟨t, hRt.2, h6, ht, hq.1, hq.2⟩)
theorem arrU_tp {τ t u u' : gSt} {N c : Nat} {w : Int32} (hI : Inv τ) (hI' : Inv t) (hN : 1000000000000000000000 < N) (h : Tr τ t) (hc : c < 5) (hu : ArrU N c w τ u) (hu' : ArrU N c w t u') : Tr u u' := by
  obtain ⟨ec, el⟩ := crs_tp h c
  unfold ArrU at hu'
  rw [el] at hu'
  have e0 : ∀ b L, RA (L - 2) b (oC t c) ↔ RA (L - 2) b (oC τ c) := fun b L => by rw [ec]
  have no : ∀ b, 4 ≤ ln τ c → isB N t w c (ln τ c) b → ¬ noB N τ c (ln τ c) := fun b h4 hb g => by
    have hA := (e0 _ _).mp hb.1
    exact g b hA ((vl_tp hI hI' hN h (ra_ctl hI hc rfl (by omega) hA)).mp hb.2.1)
  have no' : ∀ b, 4 ≤ ln τ c → isB N τ w c (ln τ c) b → ¬ noB N t c (ln τ c) := fun b h4 hb g => by
    have hA := hb.1
    exact g b ((e0 _ _).mpr hA) ((vl_tp hI hI' hN h (ra_ctl hI hc rfl (by omega) hA)).mpr hb.2.1)
  rcases hu with ⟨hK, g⟩ | ⟨h4, b, hb, hM⟩
  · rcases hu' with ⟨hK', _⟩ | ⟨h4', b', hb', _⟩
    · exact h.keep hK hK'
    · rcases g with g | g
      · omega
      · exact absurd g (no b' h4' hb')
  · rcases hu' with ⟨_, g'⟩ | ⟨h4', b', hb', hM'⟩
    · rcases g' with g' | g'
      · omega
      · exact absurd g' (no' b h4 hb)
    · have hA := hb.1
      have hA' := (e0 _ _).mp hb'.1
      have i1 := ra_ctl hI hc rfl (by omega) hA
      have i2 := ra_ctl hI hc rfl (by omega) hA'
      have l1 := hb.2.2 b' hA' ((vl_tp hI hI' hN h i2).mp hb'.2.1)
      have l2 := (leR_tp hI hI' hN h i2 i1).mp (hb'.2.2 b ((e0 _ _).mpr hA) ((vl_tp hI hI' hN h i1).mpr hb.2.1))
      have he := l1.anti l2
      obtain ⟨m1, m2, m3, m4⟩ := hM
      obtain ⟨n1, n2, n3, n4⟩ := hM'
      have e4 := h.r (r := 4) (by omega) (by omega)
      obtain ⟨⟨h0, h1, h2, h3, h4⟩, hh, hg, hcc, hr⟩ := h
      refine ⟨⟨?_, ?_, ?_, ?_, ?_⟩, fun k hk => ?_, fun k hk => ?_, fun k hk => ?_, fun r r3 r11 => ?_⟩
      · rw [n2 0 (by omega), m2 1 (by omega), h0]
      · rw [n2 1 (by omega), m2 0 (by omega), h1]
      · rw [n2 2 (by omega), m2 2 (by omega), h2]
      · rw [n2 3 (by omega), m2 3 (by omega), h3]
      · rw [n2 4 (by omega), m2 4 (by omega), h4]
      · rw [n1 0 (by omega) (by omega), m1 0 (by omega) (by omega), hh k hk]
      · rw [n1 1 (by omega) (by omega), m1 1 (by omega) (by omega), hg k hk]
      · rw [m2 2 (by omega)] at hk
        rw [n1 2 (by omega) (by omega), m1 2 (by omega) (by omega), hcc k hk]
      · by_cases q : r = 4
        · subst q
          funext j
          by_cases d : j < 6 * c ∨ 6 * c + ln τ c ≤ j
          · rw [n4 j d, m4 j d, e4]
          · have ej : j = 6 * c + (j - 6 * c) := by omega
            rw [ej, n3 (j - 6 * c) (by omega), m3 (j - 6 * c) (by omega)]
            exact (he (j - 6 * c) (by omega)).symm
        · rw [n1 r r11 q, m1 r r11 q, hr r r3 r11]
theorem sym_arrange {σ σ' τ t : gSt} {N : Nat} {x w : Int32} (hR : Rel σ τ) (hR' : Rel σ' t) (hN : 1000000000000000000000 < N) (h : Tr τ t) : SymR (f_X10_arrange N τ x w) (f_X10_arrange N t x w) := by
  have ed : t.2 4 = τ.2 4 := h.1.2.2.2.2
  have two : ∀ z : Int32, Ok (fun (q : Int32 × gSt) => q = (0, g_sf τ 6 z)) (f_X10_arrange N τ x w) → Ok (fun (q : Int32 × gSt) => q = (0, g_sf t 6 z)) (f_X10_arrange N t x w) → SymR (f_X10_arrange N τ x w) (f_X10_arrange N t x w) := by
    rintro z ⟨p, e1, rfl⟩ ⟨q, e2, rfl⟩
    rw [e1, e2]
    exact SymR.no h
  by_cases hk : isK x
  · by_cases h2 : 0 ≤ w.toInt ∧ w.toInt ≤ 9999
    · by_cases hd : τ.2 4 = 0
      · have hxc : x.toInt = (x.toInt.toNat : Nat) := by have := hk.1; omega
        have hc5 : x.toInt.toNat < 5 := by have := hk.2; omega
        obtain ⟨⟨b, s⟩, e1, u, i1, s1, a1, b1, k1⟩ := arr_y hR hN hk hxc hc5 h2 hd
        obtain ⟨⟨b', s'⟩, e1', u', i1', s1', a1', b1', k1'⟩ := arr_y hR' hN hk hxc hc5 h2 (ed.trans hd)
        have hu := arrU_tp hR.2.six hR'.2.six hN (h.six (x := 0) (y := 0)) hc5 a1 a1'
        rw [e1, e1']
        refine SymR.yes (hu.keep k1 k1') (((k1.2 6 (Or.inr rfl)).trans s1).trans ((k1'.2 6 (Or.inr rfl)).trans s1').symm) ?_
        rw [crsum_tp (z := 1) i1 i1' hN hu hc5] at b1'
        exact b1.trans b1'.symm
      · exact two 3 (arr_3 hk h2 hd) (arr_3 hk h2 (by rw [ed]; exact hd))
    · exact two 2 (arr_2 hk h2) (arr_2 hk h2)
  · exact two 1 (arr_1 hk) (arr_1 hk)
