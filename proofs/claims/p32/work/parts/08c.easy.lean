/-! ===== pure: the checks of both sides; the calls that hold no loop ===== -/
/-- the class's arrays and numbers that outlive a call -/
def ck (r : Nat) : Prop := r ≤ 1 ∨ 8 ≤ r ∧ r ≤ 11 ∨ r = 16 ∨ r = 17 ∨ 19 ≤ r ∧ r ≤ 22
def cf (k : Nat) : Prop := k ≤ 1 ∨ k = 4 ∨ 10 ≤ k
def Kc (σ σ' : gSt) : Prop := (∀ r, ck r → σ'.1 r = σ.1 r) ∧ (∀ k, cf k → σ'.2 k = σ.2 k)
def Km (τ τ' : gSt) : Prop := (∀ r, r ≤ 11 → τ'.1 r = τ.1 r) ∧ (∀ k, k ≤ 4 ∨ k = 6 → τ'.2 k = τ.2 k)
theorem Kc.rf {σ : gSt} : Kc σ σ := ⟨fun _ _ => rfl, fun _ _ => rfl⟩
theorem Km.rf {σ : gSt} : Km σ σ := ⟨fun _ _ => rfl, fun _ _ => rfl⟩
theorem Kc.trans {a b c : gSt} (h : Kc a b) (g : Kc b c) : Kc a c := ⟨fun r hr => (g.1 r hr).trans (h.1 r hr), fun r hr => (g.2 r hr).trans (h.2 r hr)⟩
theorem Km.trans {a b c : gSt} (h : Km a b) (g : Km b c) : Km a c := ⟨fun r hr => (g.1 r hr).trans (h.1 r hr), fun r hr => (g.2 r hr).trans (h.2 r hr)⟩
theorem Kc.sa {σ s : gSt} {r : Nat} {f : Nat → Int32} (h : Kc σ s) (hr : ¬ ck r) : Kc σ (g_sa s r f) := ⟨fun j hj => by rw [sa_1, if_neg (fun (e : j = r) => hr (e ▸ hj))]; exact h.1 j hj, h.2⟩
theorem Km.sa {σ s : gSt} {r : Nat} {f : Nat → Int32} (h : Km σ s) (hr : ¬ r ≤ 11) : Km σ (g_sa s r f) := ⟨fun j hj => by rw [sa_1, if_neg (fun (e : j = r) => hr (e ▸ hj))]; exact h.1 j hj, h.2⟩
theorem Kc.sf {σ s : gSt} {k : Nat} {x : Int32} (h : Kc σ s) (hr : ¬ cf k) : Kc σ (g_sf s k x) := ⟨h.1, fun j hj => by rw [sf_2, if_neg (fun (e : j = k) => hr (e ▸ hj))]; exact h.2 j hj⟩
theorem Km.sf {σ s : gSt} {k : Nat} {x : Int32} (h : Km σ s) (hr : ¬ (k ≤ 4 ∨ k = 6)) : Km σ (g_sf s k x) := ⟨h.1, fun j hj => by rw [sf_2, if_neg (fun (e : j = k) => hr (e ▸ hj))]; exact h.2 j hj⟩
theorem Km.pa {σ s : gSt} {r : Nat} {i x : Int32} (h : Km σ s) (hr : ¬ r ≤ 11) : Km σ (g_pa s r i x) := h.sa hr
theorem Inv.keep {τ τ' : gSt} (h : Inv τ) (k : Km τ τ') : Inv τ' := by
  have a0 := k.1 0 (by decide)
  have a1 := k.1 1 (by decide)
  have a2 := k.1 2 (by decide)
  have a3 := k.1 3 (by decide)
  have a4 := k.1 4 (by decide)
  have a5 := k.1 5 (by decide)
  have a6 := k.1 6 (by decide)
  have a7 := k.1 7 (by decide)
  have a8 := k.1 8 (by decide)
  have a9 := k.1 9 (by decide)
  have a10 := k.1 10 (by decide)
  have a11 := k.1 11 (by decide)
  have f0 := k.2 0 (by decide)
  have f1 := k.2 1 (by decide)
  have f2 := k.2 2 (by decide)
  have f3 := k.2 3 (by decide)
  have f4 := k.2 4 (by decide)
  unfold Inv InvT InvC InvV InvE InvS InvP at h ⊢
  rw [a0, a1, a2, a3, a4, a5, a6, a7, a8, a9, a10, a11, f0, f1, f2, f3, f4]
  exact h
theorem Same.keep {σ τ σ' τ' : gSt} (h : Same σ τ) (c : Kc σ σ') (k : Km τ τ') : Same σ' τ' := by
  unfold Same at h ⊢
  rw [c.1 0 (by unfold ck; decide), c.1 1 (by unfold ck; decide), c.1 8 (by unfold ck; decide), c.1 9 (by unfold ck; decide), c.1 10 (by unfold ck; decide), c.1 11 (by unfold ck; decide), c.1 16 (by unfold ck; decide), c.1 17 (by unfold ck; decide), c.1 19 (by unfold ck; decide), c.1 20 (by unfold ck; decide), c.1 21 (by unfold ck; decide), c.1 22 (by unfold ck; decide), c.2 0 (by unfold cf; decide), c.2 1 (by unfold cf; decide), c.2 4 (by unfold cf; decide), c.2 10 (by unfold cf; decide), c.2 11 (by unfold cf; decide)]
  rw [k.1 0 (by decide), k.1 1 (by decide), k.1 2 (by decide), k.1 3 (by decide), k.1 4 (by decide), k.1 5 (by decide), k.1 6 (by decide), k.1 7 (by decide), k.1 8 (by decide), k.1 9 (by decide), k.1 10 (by decide), k.1 11 (by decide), k.2 0 (by decide), k.2 1 (by decide), k.2 2 (by decide), k.2 3 (by decide), k.2 4 (by decide)]
  exact h
theorem Rel.keep {σ τ σ' τ' : gSt} (h : Rel σ τ) (c : Kc σ σ') (k : Km τ τ') : Rel σ' τ' := ⟨h.1.keep c k, h.2.keep k⟩
theorem Rel.six {σ τ : gSt} {x : Int32} (h : Rel σ τ) : Rel σ (g_sf τ 6 x) := by
  obtain ⟨⟨a, b, c⟩, d1, d2, d3, d4, d5, d6⟩ := h
  exact ⟨⟨a, b, c⟩, d1, d2, d3, d4, d5, d6⟩
/-! the reference's checks -/
theorem asked0 {τ : gSt} : f_X10_asked τ 0 = (0, g_sf τ 6 1) := rfl
theorem asked1 {τ : gSt} : f_X10_asked τ 1 = (1, g_sf τ 6 0) := rfl
theorem asked2_0 {τ : gSt} {b : Int32} : f_X10_asked_ τ 0 b = (0, g_sf τ 6 1) := by
  unfold f_X10_asked_
  simp only [gJoin1, if_true]
  exact if_neg (by rw [sf_2, if_pos rfl]; decide)
theorem asked2_1 {τ : gSt} {a : Int32} (h : a ≠ 0) : f_X10_asked_ τ a 0 = (0, g_sf τ 6 2) := by
  unfold f_X10_asked_
  simp only [gJoin1, if_true, if_neg h]
  exact if_neg (by rw [sf_2, if_pos rfl]; decide)
theorem asked2_2 {τ : gSt} {a b : Int32} (h : a ≠ 0) (h2 : b ≠ 0) : f_X10_asked_ τ a b = (1, g_sf τ 6 0) := by
  unfold f_X10_asked_
  simp only [gJoin1, if_neg h, if_neg h2]
  exact if_pos (by rw [sf_2, if_pos rfl])
theorem asked3_0 {τ : gSt} {b c : Int32} : f_X10_asked__ τ 0 b c = (0, g_sf τ 6 1) := by
  unfold f_X10_asked__
  simp only [gJoin1, if_true]
  exact if_neg (by rw [sf_2, if_pos rfl]; decide)
theorem asked3_1 {τ : gSt} {a c : Int32} (h : a ≠ 0) : f_X10_asked__ τ a 0 c = (0, g_sf τ 6 2) := by
  unfold f_X10_asked__
  simp only [gJoin1, if_true, if_neg h]
  exact if_neg (by rw [sf_2, if_pos rfl]; decide)
theorem asked3_2 {τ : gSt} {a b : Int32} (h : a ≠ 0) (h2 : b ≠ 0) : f_X10_asked__ τ a b 0 = (0, g_sf τ 6 3) := by
  unfold f_X10_asked__
  simp only [gJoin1, if_true, if_neg h, if_neg h2]
  exact if_neg (by rw [sf_2, if_pos rfl]; decide)
theorem asked3_3 {τ : gSt} {a b c : Int32} (h : a ≠ 0) (h2 : b ≠ 0) (h3 : c ≠ 0) : f_X10_asked__ τ a b c = (1, g_sf τ 6 0) := by
  unfold f_X10_asked__
  simp only [gJoin1, if_neg h, if_neg h2, if_neg h3]
  exact if_pos (by rw [sf_2, if_pos rfl])
theorem in_yes {x a b : Int32} (h : a.toInt ≤ x.toInt) (h2 : x.toInt ≤ b.toInt) : f_X10_in x a b = 1 := by
  unfold f_X10_in
  rw [if_neg (by rw [tlt]; omega), if_neg (by rw [tlt]; omega)]
theorem in_no {x a b : Int32} (h : x.toInt < a.toInt ∨ b.toInt < x.toInt) : f_X10_in x a b = 0 := by
  unfold f_X10_in
  simp only [tlt]
  split
  · rfl
  · rw [if_pos (by omega)]
theorem need_yes {x a b : Int32} (h : a.toInt ≤ x.toInt) (h2 : x.toInt ≤ b.toInt) : f_X9_needRange x a b = 0 := by
  unfold f_X9_needRange
  rw [if_neg (by rw [tlt]; omega), if_pos (by rw [tle]; omega)]
theorem need_no {x a b : Int32} (h : x.toInt < a.toInt ∨ b.toInt < x.toInt) : f_X9_needRange x a b = 2 := by
  unfold f_X9_needRange
  simp only [tlt, tle]
  split
  · rfl
  · rw [if_neg (by omega)]
theorem idx_yes {x b : Int32} (h : 0 ≤ x.toInt) (h2 : x.toInt < b.toInt) : f_X9_needIndex x b = 0 := by
  unfold f_X9_needIndex
  rw [if_neg (by rw [tlt, tl0]; omega), if_pos (by rw [tlt]; omega)]
theorem idx_no {x b : Int32} (h : x.toInt < 0 ∨ b.toInt ≤ x.toInt) : f_X9_needIndex x b = 1 := by
  unfold f_X9_needIndex
  simp only [tlt, tl0]
  split
  · rfl
  · rw [if_neg (by omega)]
theorem state1 : f_X9_needState 1 = 0 := rfl
theorem state0 : f_X9_needState 0 = 3 := rfl
/-- x, y on the map -/
def onMap (τ : gSt) (x y : Int32) : Prop := (0 ≤ x.toInt ∧ x.toInt < (τ.2 0).toInt) ∧ 0 ≤ y.toInt ∧ y.toInt < (τ.2 1).toInt
theorem cell_yes {τ : gSt} (hT : InvT τ) {x y : Int32} (h : onMap τ x y) : f_X10_isCell τ x y = 1 := by
  obtain ⟨h1, h2⟩ := h
  obtain ⟨w1, w2, w3, w4, -⟩ := hT
  unfold f_X10_isCell
  rw [in_yes (by rw [tl0]; omega) (by rw [tsub (by rw [tl1]; omega), tl1]; omega), in_yes (by rw [tl0]; omega) (by rw [tsub (by rw [tl1]; omega), tl1]; omega)]
  rfl
theorem cell_no {τ : gSt} (hT : InvT τ) {x y : Int32} (h : ¬ onMap τ x y) : f_X10_isCell τ x y = 0 := by
  obtain ⟨w1, w2, w3, w4, -⟩ := hT
  unfold onMap at h
  unfold f_X10_isCell
  by_cases c : 0 ≤ x.toInt ∧ x.toInt < (τ.2 0).toInt
  · rw [in_yes (by rw [tl0]; omega) (by rw [tsub (by rw [tl1]; omega), tl1]; omega), in_no (by rw [tl0, tsub (by rw [tl1]; omega), tl1]; omega)]
    rfl
  · rw [in_no (by rw [tl0, tsub (by rw [tl1]; omega), tl1]; omega), if_pos rfl]
theorem needCell_yes {σ τ : gSt} (hS : Same σ τ) {x y : Int32} (h : onMap τ x y) : f_X9_needCell σ x y = 0 := by
  obtain ⟨h1, h2⟩ := h
  unfold f_X9_needCell f_X8_has
  rw [hS.2.2.1, hS.2.2.2.1, if_neg (c := x < 0) (by rw [tlt, tl0]; omega), if_neg (c := τ.2 0 ≤ x) (by rw [tle]; omega), if_neg (c := y < 0) (by rw [tlt, tl0]; omega), if_neg (c := τ.2 1 ≤ y) (by rw [tle]; omega)]
  rfl
theorem needCell_no {σ τ : gSt} (hS : Same σ τ) {x y : Int32} (h : ¬ onMap τ x y) : f_X9_needCell σ x y = 1 := by
  unfold f_X9_needCell f_X8_has
  unfold onMap at h
  rw [hS.2.2.1, hS.2.2.2.1]
  simp only [tlt, tle, tl0]
  by_cases c1 : x.toInt < 0
  · rw [if_pos c1]; rfl
  rw [if_neg c1]
  by_cases c2 : (τ.2 0).toInt ≤ x.toInt
  · rw [if_pos c2]; rfl
  rw [if_neg c2]
  by_cases c3 : y.toInt < 0
  · rw [if_pos c3]; rfl
  rw [if_neg c3]
  rw [if_pos (show (τ.2 1).toInt ≤ y.toInt by omega)]
  rfl
def isK (x : Int32) : Prop := 0 ≤ x.toInt ∧ x.toInt < 5
def isC (τ : gSt) (x : Int32) : Prop := 0 ≤ x.toInt ∧ x.toInt < (τ.2 2).toInt
def isR (τ : gSt) (x : Int32) : Prop := 0 ≤ x.toInt ∧ x.toInt < (τ.2 3).toInt
theorem klass_yes {x : Int32} (h : isK x) : f_X10_isClass x = 1 := by
  unfold f_X10_isClass
  rw [in_yes (by rw [tl0]; exact h.1) (by have := h.2; rw [tl4]; omega)]
  rfl
theorem klass_no {x : Int32} (h : ¬ isK x) : f_X10_isClass x = 0 := by
  unfold f_X10_isClass
  unfold isK at h
  rw [in_no (by rw [tl0, tl4]; omega)]
  rfl
theorem needK_yes {x : Int32} (h : isK x) : f_X9_needKlass x = 0 := by
  unfold f_X9_needKlass
  rw [idx_yes h.1 (by rw [tl5]; exact h.2)]
  rfl
theorem needK_no {x : Int32} (h : ¬ isK x) : f_X9_needKlass x = 1 := by
  unfold f_X9_needKlass
  unfold isK at h
  rw [idx_no (by rw [tl5]; omega)]
  rfl
theorem ctl_yes {τ : gSt} (hC : InvC τ) {x : Int32} (h : isC τ x) : f_X10_isControl τ x = 1 := by
  unfold f_X10_isControl
  have h1 := hC.1
  have h2 := hC.2.1
  rw [in_yes (by rw [tl0]; exact h.1) (by have := h.2; rw [tsub (by rw [tl1]; omega), tl1]; omega)]
  rfl
theorem ctl_no {τ : gSt} (hC : InvC τ) {x : Int32} (h : ¬ isC τ x) : f_X10_isControl τ x = 0 := by
  unfold f_X10_isControl
  unfold isC at h
  have h1 := hC.1
  have h2 := hC.2.1
  rw [in_no (by rw [tl0, tsub (by rw [tl1]; omega), tl1]; omega)]
  rfl
theorem needC_yes {σ τ : gSt} (hS : Same σ τ) {x : Int32} (h : isC τ x) : f_X9_needControl σ x = 0 := by
  unfold f_X9_needControl f_X1_count
  rw [hS.2.2.2.2.1, idx_yes h.1 h.2]
  rfl
theorem needC_no {σ τ : gSt} (hS : Same σ τ) {x : Int32} (h : ¬ isC τ x) : f_X9_needControl σ x = 1 := by
  unfold f_X9_needControl f_X1_count
  unfold isC at h
  rw [hS.2.2.2.2.1, idx_no (by omega)]
  rfl
theorem run_yes {τ : gSt} (hE : InvE τ) {x : Int32} (h : isR τ x) : f_X10_isRunner τ x = 1 := by
  unfold f_X10_isRunner
  have h1 := hE.1
  have h2 := hE.2.1
  rw [in_yes (by rw [tl0]; exact h.1) (by have := h.2; rw [tsub (by rw [tl1]; omega), tl1]; omega)]
  rfl
theorem run_no {τ : gSt} (hE : InvE τ) {x : Int32} (h : ¬ isR τ x) : f_X10_isRunner τ x = 0 := by
  unfold f_X10_isRunner
  unfold isR at h
  have h1 := hE.1
  have h2 := hE.2.1
  rw [in_no (by rw [tl0, tsub (by rw [tl1]; omega), tl1]; omega)]
  rfl
theorem needR_yes {σ τ : gSt} (hS : Same σ τ) {x : Int32} (h : isR τ x) : f_X9_needRunner σ x = 0 := by
  unfold f_X9_needRunner f_X3_count
  rw [hS.2.2.2.2.2.1, idx_yes h.1 h.2]
  rfl
theorem needR_no {σ τ : gSt} (hS : Same σ τ) {x : Int32} (h : ¬ isR τ x) : f_X9_needRunner σ x = 1 := by
  unfold f_X9_needRunner f_X3_count
  unfold isR at h
  rw [hS.2.2.2.2.2.1, idx_no (by omega)]
  rfl
theorem one_ne : ¬ (1 : Int32) = 0 := by decide
theorem onen : ¬ (1 : Nat) = 0 := by decide
/-- a call refused by both -/
theorem Agr.no {P : Nat → Prop} {g : Nat → Int32} {v : Int32 → Int32 → Prop} {σ τ : gSt} {k : Nat} {r b x : Int32} (hR : Rel σ τ) (hk : k ≠ 0) (hP : P k) (hx : x = g k) : Agr P g v (some (k, r, σ)) (some (b, g_sf τ 6 x)) :=
  ⟨k, r, σ, b, g_sf τ 6 x, rfl, rfl, hP, by rw [sf_2, if_pos rfl]; exact hx, fun h => absurd h hk, hR.six⟩
/-- a call answered by both -/
theorem Agr.yes {P : Nat → Prop} {g : Nat → Int32} {v : Int32 → Int32 → Prop} {σ τ : gSt} {r b : Int32} (hR : Rel σ τ) (hP : P 0) (hx : τ.2 6 = g 0) (hb : v b r) : Agr P g v (some (0, r, σ)) (some (b, τ)) :=
  ⟨0, r, σ, b, τ, rfl, rfl, hP, hx, fun _ => hb, hR⟩
theorem owe_runners : Owe_runners := fun σ τ hR => ⟨hR.1.2.2.2.2.2.1, hR.six⟩
theorem len24 : gLen 19 = 24 := rfl
theorem owe_startOf (N : Nat) : Owe_startOf N := by
  intro σ τ x hR
  have hE := hR.2.2.2.2.1
  unfold f_X9_startOf f_X10_startOf
  by_cases h : isR τ x
  · simp only [needR_yes hR.1 h, run_yes hE h, asked1, if_true, if_neg one_ne]
    have h1 := h.1
    have h2 := h.2
    have h3 := hE.2.1
    rw [if_neg (by rw [tlt, tl0, tcl]; omega)]
    refine Agr.yes hR.six (Or.inl rfl) rfl ?_
    unfold f_X3_startMinute
    rw [gget_in h1 (by rw [len24]; omega)]
    exact (hR.1.2.1 x.toInt.toNat (by omega)).symm
  · simp only [needR_no hR.1 h, run_no hE h, asked0, if_true, if_neg onen]
    exact Agr.no hR (by decide) (Or.inr rfl) rfl
theorem num_eq (x y : Int32) : f_X8_number x y = (12 * y) + x := by
  unfold f_X8_number
  rw [Int32.mul_comm]
theorem num_in {τ : gSt} (hT : InvT τ) {x y : Int32} (h : onMap τ x y) : (12 * y + x).toInt = 12 * y.toInt + x.toInt ∧ 0 ≤ 12 * y.toInt + x.toInt ∧ 12 * y.toInt + x.toInt < 144 := by
  obtain ⟨h1, h2⟩ := h
  obtain ⟨w1, w2, w3, w4, -⟩ := hT
  have e : (12 * y).toInt = 12 * y.toInt := by rw [tmul (by rw [tl12]; omega), tl12]
  refine ⟨by rw [tadd (by rw [e]; omega), e], by omega, by omega⟩
theorem len144 : gLen 0 = 144 ∧ gLen 1 = 144 := ⟨rfl, rfl⟩
theorem gput_pa {σ : gSt} {r : Nat} {i x : Int32} (h0 : 0 ≤ i.toInt) (h1 : i.toInt < gLen r) : gput σ r i x = g_pa σ r i x := gput_in h0 h1
theorem gget_ga {σ : gSt} {r : Nat} {i : Int32} (h0 : 0 ≤ i.toInt) (h1 : i.toInt < gLen r) : gget σ r i = g_ga σ r i := gget_in h0 h1
theorem owe_cell (N : Nat) : Owe_cell N := by
  intro σ τ x y hR
  have hT := hR.2.1
  unfold f_X9_cell f_X10_cell
  by_cases h : onMap τ x y
  · simp only [needCell_yes hR.1 h, cell_yes hT h, asked1, if_true, if_neg one_ne, num_eq]
    have hn := num_in hT h
    rw [if_neg (by rw [tlt, tl0, tcl]; omega), if_neg (by rw [tlt, tl0, tcl]; omega)]
    refine Agr.yes hR.six (Or.inl rfl) rfl ?_
    unfold f_X8_heightOf f_X8_groundOf
    rw [gget_ga (by omega) (by rw [len144.1]; omega), gget_ga (by omega) (by rw [len144.2]; omega)]
    unfold g_ga
    rw [hR.1.1.1, hR.1.1.2.1]
    rfl
  · simp only [needCell_no hR.1 h, cell_no hT h, asked0, if_true, if_neg onen]
    exact Agr.no hR (by decide) (Or.inr rfl) rfl
theorem Rel.h {σ τ : gSt} {f : Nat → Int32} (hR : Rel σ τ) (hf : ∀ k, 0 ≤ (f k).toInt ∧ (f k).toInt ≤ 255) : Rel (g_sa σ 0 f) (g_sa τ 0 f) := by
  obtain ⟨⟨h1, h2, h3⟩, h4, h5⟩ := hR
  refine ⟨⟨?_, h2, h3⟩, ⟨h4.1, h4.2.1, h4.2.2.1, h4.2.2.2.1, hf, h4.2.2.2.2.2⟩, h5⟩
  exact ⟨rfl, h1.2⟩
theorem upd_all {P : Int32 → Prop} {f : Nat → Int32} {k : Nat} {x : Int32} (hf : ∀ k, P (f k)) (hx : P x) : ∀ j, P (upd f k x j) := by
  intro j
  rw [upd_at]
  split
  · exact hx
  · exact hf j
theorem owe_setHeight (N : Nat) : Owe_setHeight N := by
  intro σ τ x y z hR
  have hT := hR.2.1
  unfold f_X9_setHeight f_X10_setHeight
  by_cases h : onMap τ x y
  · by_cases hz : 0 ≤ z.toInt ∧ z.toInt ≤ 255
    · simp only [needCell_yes hR.1 h, cell_yes hT h, if_true, num_eq, need_yes (a := 0) (b := 255) (x := z) (by rw [tl0]; exact hz.1) (by rw [tl255]; exact hz.2), in_yes (a := 0) (b := 255) (x := z) (by rw [tl0]; exact hz.1) (by rw [tl255]; exact hz.2), asked2_2 one_ne one_ne, if_neg one_ne]
      have hn := num_in hT h
      rw [if_neg (by rw [tlt, tl0, tcl]; omega), if_neg (by rw [tlt, tl0, tcl]; omega)]
      unfold f_X8_replaceHeight
      rw [gget_ga (by omega) (by rw [len144.1]; omega), gput_pa (by omega) (by rw [len144.1]; omega)]
      refine Agr.yes ?_ (Or.inl rfl) rfl ?_
      · unfold g_pa
        rw [hR.1.1.1]
        exact hR.six.h (upd_all (P := fun v => 0 ≤ v.toInt ∧ v.toInt ≤ 255) hT.2.2.2.2.1 hz)
      · unfold g_ga
        rw [hR.1.1.1]
        rfl
    · simp only [needCell_yes hR.1 h, cell_yes hT h, if_true, need_no (a := 0) (b := 255) (x := z) (by rw [tl0, tl255]; omega), in_no (a := 0) (b := 255) (x := z) (by rw [tl0, tl255]; omega), asked2_1 one_ne, if_neg (show ¬ (2 : Nat) = 0 by decide)]
      exact Agr.no hR (by decide) (Or.inr (Or.inr rfl)) rfl
  · simp only [needCell_no hR.1 h, cell_no hT h, asked2_0, if_true, if_neg onen]
    exact Agr.no hR (by decide) (Or.inr (Or.inl rfl)) rfl
