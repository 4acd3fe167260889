/-! ===== pure: a map that is turned over its slant ===== -/
def tp (k : Nat) : Nat := (k % 12) * 12 + k / 12
theorem tp_lt {k : Nat} (h : k < 144) : tp k < 144 := by unfold tp; omega
theorem tp_tp {k : Nat} (h : k < 144) : tp (tp k) = k := by unfold tp; omega
theorem tp_mod {k : Nat} (h : k < 144) : tp k % 12 = k / 12 := by unfold tp; omega
theorem tp_div {k : Nat} (h : k < 144) : tp k / 12 = k % 12 := by unfold tp; omega
theorem tp_inj {j k : Nat} (hj : j < 144) (hk : k < 144) (h : tp j = tp k) : j = k := by
  rw [← tp_tp hj, ← tp_tp hk, h]
/-- two states of the reference: t has x and y changed with one another -/
def Tr (τ t : gSt) : Prop := (t.2 0 = τ.2 1 ∧ t.2 1 = τ.2 0 ∧ t.2 2 = τ.2 2 ∧ t.2 3 = τ.2 3 ∧ t.2 4 = τ.2 4) ∧ (∀ k, k < 144 → t.1 0 (tp k) = τ.1 0 k) ∧ (∀ k, k < 144 → t.1 1 (tp k) = τ.1 1 k) ∧ (∀ k : Nat, (k : Int) < (τ.2 2).toInt → (t.1 2 k).toInt = tp (τ.1 2 k).toInt.toNat) ∧ (∀ r, 3 ≤ r → r ≤ 11 → t.1 r = τ.1 r)
theorem Tr.six {τ t : gSt} (h : Tr τ t) {x y : Int32} : Tr (g_sf τ 6 x) (g_sf t 6 y) := h
theorem Tr.keep {τ t τ' t' : gSt} (h : Tr τ t) (a : Km τ τ') (b : Km t t') : Tr τ' t' := by
  obtain ⟨⟨h0, h1, h2, h3, h4⟩, hh, hg, hc, hr⟩ := h
  refine ⟨⟨?_, ?_, ?_, ?_, ?_⟩, fun k hk => ?_, fun k hk => ?_, fun k hk => ?_, fun r r3 r11 => ?_⟩
  · rw [b.2 0 (by omega), a.2 1 (by omega), h0]
  · rw [b.2 1 (by omega), a.2 0 (by omega), h1]
  · rw [b.2 2 (by omega), a.2 2 (by omega), h2]
  · rw [b.2 3 (by omega), a.2 3 (by omega), h3]
  · rw [b.2 4 (by omega), a.2 4 (by omega), h4]
  · rw [b.1 0 (by omega), a.1 0 (by omega), hh k hk]
  · rw [b.1 1 (by omega), a.1 1 (by omega), hg k hk]
  · rw [a.2 2 (by omega)] at hk
    rw [b.1 2 (by omega), a.1 2 (by omega), hc k hk]
  · rw [b.1 r (by omega), a.1 r (by omega), hr r r3 r11]
/-- both answer the same, and stay turned -/
def SymR (oa ob : Option (Int32 × gSt)) : Prop := ∃ b τ b' t, oa = some (b, τ) ∧ ob = some (b', t) ∧ τ.2 6 = t.2 6 ∧ (τ.2 6 = 0 → b = b') ∧ Tr τ t
theorem SymR.no {τ t : gSt} {b x : Int32} (h : Tr τ t) : SymR (some (b, g_sf τ 6 x)) (some (b, g_sf t 6 x)) := ⟨b, _, b, _, rfl, rfl, rfl, fun _ => rfl, h.six⟩
theorem SymR.yes {τ t : gSt} {b b' : Int32} (h : Tr τ t) (h6 : τ.2 6 = t.2 6) (hb : b = b') : SymR (some (b, τ)) (some (b', t)) := ⟨b, _, b', _, rfl, rfl, h6, fun _ => hb, h⟩
theorem SymR.of {τ t : gSt} {oa ob : Option (Int32 × gSt)} {Pa Pb : Int32 × gSt → Prop} (h : Tr τ t) (ha : Ok Pa oa) (hb : Ok Pb ob) (hP : ∀ p q, Pa p → Pb q → p.1 = q.1 ∧ Km (g_sf τ 6 0) p.2 ∧ Km (g_sf t 6 0) q.2) : SymR oa ob := by
  obtain ⟨⟨b, τ'⟩, e1, h1⟩ := ha
  obtain ⟨⟨b', t'⟩, e2, h2⟩ := hb
  obtain ⟨h3, h4, h5⟩ := hP _ _ h1 h2
  exact ⟨b, τ', b', t', e1, e2, by rw [six0 h4, six0 h5], fun _ => h3, (h.six (x := 0) (y := 0)).keep h4 h5⟩
theorem Tr.map {τ t : gSt} (h : Tr τ t) {x y : Int32} : onMap t y x ↔ onMap τ x y := by
  unfold onMap
  rw [h.1.1, h.1.2.1]
  exact And.comm
theorem Tr.ctl {τ t : gSt} (h : Tr τ t) {x : Int32} : isC t x ↔ isC τ x := by
  unfold isC
  rw [h.1.2.2.1]
theorem Tr.run {τ t : gSt} (h : Tr τ t) {x : Int32} : isR t x ↔ isR τ x := by
  unfold isR
  rw [h.1.2.2.2.1]
/-- the number of a cell, and of the one that it becomes -/
theorem num_tp {τ t : gSt} (hT : InvT τ) (hT' : InvT t) (h : Tr τ t) {x y : Int32} (hm : onMap τ x y) : ∃ k, k < 144 ∧ (12 * y + x).toInt.toNat = k ∧ (12 * x + y).toInt.toNat = tp k ∧ k % 12 = x.toInt.toNat ∧ k / 12 = y.toInt.toNat := by
  have h1 := num_in hT hm
  have h2 := num_in hT' (h.map.mpr hm)
  have hm1 := hm.1
  have hm2 := hm.2
  obtain ⟨w1, w2, w3, w4, -⟩ := hT
  refine ⟨(12 * y + x).toInt.toNat, by omega, rfl, ?_, by omega, by omega⟩
  unfold tp
  omega
theorem sym_setHeight {τ t : gSt} {N : Nat} {x y z : Int32} (hI : Inv τ) (hI' : Inv t) (h : Tr τ t) : SymR (f_X10_setHeight N τ x y z) (f_X10_setHeight N t y x z) := by
  have hT := hI.1
  have hT' := hI'.1
  unfold f_X10_setHeight
  by_cases hm : onMap τ x y
  · have hm' := h.map.mpr hm
    by_cases hz : 0 ≤ z.toInt ∧ z.toInt ≤ 255
    · simp only [cell_yes hT hm, cell_yes hT' hm', in_yes (a := 0) (b := 255) (x := z) (by rw [tl0]; exact hz.1) (by rw [tl255]; exact hz.2), asked2_2 one_ne one_ne, if_neg one_ne]
      have hn := num_in hT hm
      have hn' := num_in hT' hm'
      rw [if_neg (by rw [tlt, tl0, tcl]; omega), if_neg (by rw [tlt, tl0, tcl]; omega), if_neg (by rw [tlt, tl0, tcl]; omega), if_neg (by rw [tlt, tl0, tcl]; omega)]
      obtain ⟨k, k144, e1, e2, -, -⟩ := num_tp hT hT' h hm
      refine SymR.yes ?_ rfl ?_
      · refine ⟨h.1, fun j hj => ?_, h.2.2.1, h.2.2.2.1, fun r r3 r11 => ?_⟩
        · show upd (t.1 0) (12 * x + y).toInt.toNat z (tp j) = upd (τ.1 0) (12 * y + x).toInt.toNat z j
          rw [upd_at, upd_at, e1, e2]
          by_cases c : j = k
          · rw [if_pos c, if_pos (by rw [c])]
          · rw [if_neg c, if_neg (fun e => c (tp_inj hj k144 e))]
            exact h.2.1 j hj
        · rw [pa_1, if_neg (by omega), pa_1, if_neg (by omega)]
          exact h.2.2.2.2 r r3 r11
      · show τ.1 0 (12 * y + x).toInt.toNat = t.1 0 (12 * x + y).toInt.toNat
        rw [e1, e2, h.2.1 k k144]
    · simp only [cell_yes hT hm, cell_yes hT' hm', in_no (a := 0) (b := 255) (x := z) (by rw [tl0, tl255]; omega), asked2_1 one_ne, if_true]
      exact SymR.no h
  · simp only [cell_no hT hm, cell_no hT' (fun e => hm (h.map.mp e)), asked2_0, if_true]
    exact SymR.no h
theorem sym_cell {τ t : gSt} {N : Nat} {x y : Int32} (hI : Inv τ) (hI' : Inv t) (h : Tr τ t) : SymR (f_X10_cell N τ x y) (f_X10_cell N t y x) := by
  have hT := hI.1
  have hT' := hI'.1
  unfold f_X10_cell
  by_cases hm : onMap τ x y
  · have hm' := h.map.mpr hm
    simp only [cell_yes hT hm, cell_yes hT' hm', asked1, if_neg one_ne]
    have hn := num_in hT hm
    have hn' := num_in hT' hm'
    rw [if_neg (by rw [tlt, tl0, tcl]; omega), if_neg (by rw [tlt, tl0, tcl]; omega), if_neg (by rw [tlt, tl0, tcl]; omega), if_neg (by rw [tlt, tl0, tcl]; omega)]
    obtain ⟨k, k144, e1, e2, -, -⟩ := num_tp hT hT' h hm
    refine SymR.yes h.six rfl ?_
    show (10 * τ.1 0 (12 * y + x).toInt.toNat) + τ.1 1 (12 * y + x).toInt.toNat = (10 * t.1 0 (12 * x + y).toInt.toNat) + t.1 1 (12 * x + y).toInt.toNat
    rw [e1, e2, h.2.1 k k144, h.2.2.1 k k144]
  · simp only [cell_no hT hm, cell_no hT' (fun e => hm (h.map.mp e)), asked0, if_true]
    exact SymR.no h
theorem sym_startOf {τ t : gSt} {N : Nat} {x : Int32} (hI : Inv τ) (hI' : Inv t) (h : Tr τ t) : SymR (f_X10_startOf N τ x) (f_X10_startOf N t x) := by
  have hE := hI.2.2.2.1
  have hE' := hI'.2.2.2.1
  unfold f_X10_startOf
  by_cases hx : isR τ x
  · have hx' := h.run.mpr hx
    simp only [run_yes hE hx, run_yes hE' hx', asked1, if_neg one_ne]
    have h1 := hx.1
    have h2 := hx.2
    have h3 := hE.2.1
    rw [if_neg (by rw [tlt, tl0, tcl]; omega), if_neg (by rw [tlt, tl0, tcl]; omega)]
    refine SymR.yes h.six rfl ?_
    show τ.1 8 x.toInt.toNat = t.1 8 x.toInt.toNat
    rw [h.2.2.2.2 8 (by omega) (by omega)]
  · simp only [run_no hE hx, run_no hE' (fun e => hx (h.run.mp e)), asked0, if_true]
    exact SymR.no h
theorem sym_courseAt {τ t : gSt} {N : Nat} {x j : Int32} (hI : Inv τ) (h : Tr τ t) : SymR (f_X10_courseAt N τ x j) (f_X10_courseAt N t x j) := by
  have e4 : t.1 4 = τ.1 4 := h.2.2.2.2 4 (by omega) (by omega)
  have e5 : t.1 5 = τ.1 5 := h.2.2.2.2 5 (by omega) (by omega)
  unfold f_X10_courseAt
  simp only [gJoin1, gJoin0]
  by_cases hk : isK x
  · have h3 := hk.1
    have h4 := hk.2
    have hl := hI.2.2.1.1 x.toInt.toNat
    have eg : g_ga τ 5 x = τ.1 5 x.toInt.toNat := rfl
    have eg' : g_ga t 5 x = τ.1 5 x.toInt.toNat := by rw [← e5]; rfl
    have es : (τ.1 5 x.toInt.toNat - 1).toInt = (τ.1 5 x.toInt.toNat).toInt - 1 := by rw [tsub (by rw [tl1]; omega), tl1]
    simp only [klass_yes hk, if_neg one_ne, eg, eg']
    rw [if_neg (c := x < 0 ∨ 5 ≤ x.toNatClampNeg) (by rw [tlt, tl0, tcl]; omega), if_neg (c := x < 0 ∨ 5 ≤ x.toNatClampNeg) (by rw [tlt, tl0, tcl]; omega)]
    by_cases hj : 0 ≤ j.toInt ∧ j.toInt < (τ.1 5 x.toInt.toNat).toInt
    · have e := ent_in (j := j) hk hj.1 (by omega)
      simp only [in_yes (x := j) (a := 0) (b := τ.1 5 x.toInt.toNat - 1) (by rw [tl0]; exact hj.1) (by rw [es]; omega), if_neg one_ne, asked1]
      rw [if_neg (by rw [tlt, tl0, tcl, e]; omega), if_neg (by rw [tlt, tl0, tcl, e]; omega)]
      refine SymR.yes h.six rfl ?_
      show τ.1 4 _ = t.1 4 _
      rw [e4]
    · simp only [in_no (x := j) (a := 0) (b := τ.1 5 x.toInt.toNat - 1) (by rw [es, tl0]; omega), if_true, asked0]
      exact SymR.no h
  · simp only [klass_no hk, if_true, asked0]
    exact SymR.no h
