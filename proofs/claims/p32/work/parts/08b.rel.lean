/-! ===== pure: the class's state and the reference's, side by side ===== -/
/-- the map -/
def InvT (τ : gSt) : Prop := 2 ≤ (τ.2 0).toInt ∧ (τ.2 0).toInt ≤ 12 ∧ 2 ≤ (τ.2 1).toInt ∧ (τ.2 1).toInt ≤ 12 ∧ (∀ k, 0 ≤ (τ.1 0 k).toInt ∧ (τ.1 0 k).toInt ≤ 255) ∧ (∀ k, 0 ≤ (τ.1 1 k).toInt ∧ (τ.1 1 k).toInt ≤ 4)
/-- the controls -/
def InvC (τ : gSt) : Prop := 0 ≤ (τ.2 2).toInt ∧ (τ.2 2).toInt ≤ 12 ∧ (∀ k : Nat, (k : Int) < (τ.2 2).toInt → 0 ≤ (τ.1 2 k).toInt ∧ (τ.1 2 k).toInt % 12 < (τ.2 0).toInt ∧ (τ.1 2 k).toInt / 12 < (τ.2 1).toInt) ∧ (∀ k, τ.1 3 k = 0 ∨ τ.1 3 k = 1)
/-- the courses -/
def InvV (τ : gSt) : Prop := (∀ c, 0 ≤ (τ.1 5 c).toInt ∧ (τ.1 5 c).toInt ≤ 6) ∧ (∀ c j : Nat, c < 5 → (j : Int) < (τ.1 5 c).toInt → 0 ≤ (τ.1 4 (6 * c + j)).toInt ∧ (τ.1 4 (6 * c + j)).toInt < (τ.2 2).toInt) ∧ (∀ c i j : Nat, c < 5 → i < j → (j : Int) < (τ.1 5 c).toInt → τ.1 4 (6 * c + i) ≠ τ.1 4 (6 * c + j))
/-- the runners -/
def InvE (τ : gSt) : Prop := 0 ≤ (τ.2 3).toInt ∧ (τ.2 3).toInt ≤ 24 ∧ (∀ k : Nat, (k : Int) < (τ.2 3).toInt → 0 ≤ (τ.1 6 k).toInt ∧ (τ.1 6 k).toInt ≤ 4 ∧ 2 ≤ (τ.1 5 (τ.1 6 k).toInt.toNat).toInt) ∧ (∀ k : Nat, (k : Int) < (τ.2 3).toInt → 0 ≤ (τ.1 7 k).toInt ∧ (τ.1 7 k).toInt ≤ 7)
/-- the starts -/
def InvS (τ : gSt) : Prop := (τ.2 4 = 0 ∨ τ.2 4 = 1) ∧ (∀ k : Nat, (τ.2 3).toInt ≤ (k : Int) → k < 24 → τ.1 8 k = -1) ∧ (τ.2 4 = 0 → ∀ k : Nat, k < 24 → τ.1 8 k = -1) ∧ (τ.2 4 = 1 → ∀ k : Nat, (k : Int) < (τ.2 3).toInt → 0 ≤ (τ.1 8 k).toInt ∧ (τ.1 8 k).toInt ≤ 230)
/-- the punches -/
def InvP (τ : gSt) : Prop := (∀ k, 0 ≤ (τ.1 11 k).toInt ∧ (τ.1 11 k).toInt ≤ 20) ∧ (τ.2 4 = 0 → ∀ k, τ.1 11 k = 0) ∧ (∀ i j : Nat, i < 24 → (j : Int) < (τ.1 11 i).toInt → 0 ≤ (τ.1 9 (20 * i + j)).toInt ∧ (τ.1 9 (20 * i + j)).toInt < (τ.2 2).toInt ∧ (τ.1 8 i).toInt ≤ (τ.1 10 (20 * i + j)).toInt ∧ (τ.1 10 (20 * i + j)).toInt ≤ 9999) ∧ (∀ i j k : Nat, i < 24 → j < k → (k : Int) < (τ.1 11 i).toInt → (τ.1 10 (20 * i + j)).toInt ≤ (τ.1 10 (20 * i + k)).toInt)
def Inv (τ : gSt) : Prop := InvT τ ∧ InvC τ ∧ InvV τ ∧ InvE τ ∧ InvS τ ∧ InvP τ
/-- both hold the same -/
def Same (σ τ : gSt) : Prop := (σ.1 0 = τ.1 0 ∧ σ.1 1 = τ.1 1 ∧ σ.1 8 = τ.1 2 ∧ σ.1 9 = τ.1 3 ∧ σ.1 10 = τ.1 4 ∧ σ.1 11 = τ.1 5 ∧ σ.1 16 = τ.1 6 ∧ σ.1 17 = τ.1 7 ∧ σ.1 20 = τ.1 11 ∧ σ.1 21 = τ.1 9 ∧ σ.1 22 = τ.1 10) ∧ (∀ k : Nat, (k : Int) < (τ.2 3).toInt → σ.1 19 k = τ.1 8 k) ∧ (σ.2 0 = τ.2 0 ∧ σ.2 1 = τ.2 1 ∧ σ.2 4 = τ.2 2 ∧ σ.2 10 = τ.2 3 ∧ σ.2 11 = τ.2 4)
def Rel (σ τ : gSt) : Prop := Same σ τ ∧ Inv τ
/-- what a call owes: the same exception, the same answer, and states that are the same again -/
def Agr (P : Nat → Prop) (g : Nat → Int32) (v : Int32 → Int32 → Prop) (o9 : Option (Nat × Int32 × gSt)) (o10 : Option (Int32 × gSt)) : Prop := ∃ k r σ' b τ', o9 = some (k, r, σ') ∧ o10 = some (b, τ') ∧ P k ∧ τ'.2 6 = g k ∧ (k = 0 → v b r) ∧ Rel σ' τ'
def vI (b r : Int32) : Prop := b = r
def vZ (b r : Int32) : Prop := b = 0 ↔ r = 0
/-- what setHeight owes -/
def Owe_setHeight (N : Nat) : Prop := ∀ σ τ (x1 x2 x3 : Int32), Rel σ τ → Agr (fun k => k = 0 ∨ k = 1 ∨ k = 2) f_L_setHeight vI (some (f_X9_setHeight σ x1 x2 x3)) (f_X10_setHeight N τ x1 x2 x3)
/-- what hill owes -/
def Owe_hill (N : Nat) : Prop := ∀ σ τ (x1 x2 x3 x4 : Int32), Rel σ τ → Agr (fun k => k = 0 ∨ k = 1 ∨ k = 2) f_L_hill vI (f_X9_hill N σ x1 x2 x3 x4) (f_X10_hill N τ x1 x2 x3 x4)
/-- what setGround owes -/
def Owe_setGround (N : Nat) : Prop := ∀ σ τ (x1 x2 x3 x4 x5 : Int32), Rel σ τ → Agr (fun k => k = 0 ∨ k = 1 ∨ k = 2) f_L_setGround vI (f_X9_setGround N σ x1 x2 x3 x4 x5) (f_X10_setGround N τ x1 x2 x3 x4 x5)
/-- what control owes -/
def Owe_control (N : Nat) : Prop := ∀ σ τ (x1 x2 : Int32), Rel σ τ → Agr (fun k => k = 0 ∨ k = 1 ∨ k = 3) f_L_control vI (f_X9_control N σ x1 x2) (f_X10_control N τ x1 x2)
/-- what visit owes -/
def Owe_visit (N : Nat) : Prop := ∀ σ τ (x1 x2 : Int32), Rel σ τ → Agr (fun k => k = 0 ∨ k = 1 ∨ k = 3) f_L_visit vI (f_X9_visit N σ x1 x2) (f_X10_visit N τ x1 x2)
/-- what arrange owes -/
def Owe_arrange (N : Nat) : Prop := ∀ σ τ (x1 x2 : Int32), Rel σ τ → Agr (fun k => k = 0 ∨ k = 1 ∨ k = 2 ∨ k = 3) f_L_arrange vI (f_X9_arrange N σ x1 x2) (f_X10_arrange N τ x1 x2)
/-- what enter owes -/
def Owe_enter (N : Nat) : Prop := ∀ σ τ (x1 x2 : Int32), Rel σ τ → Agr (fun k => k = 0 ∨ k = 1 ∨ k = 2 ∨ k = 3) f_L_enter vI (some (f_X9_enter σ x1 x2)) (f_X10_enter N τ x1 x2)
/-- what draw owes -/
def Owe_draw (N : Nat) : Prop := ∀ σ τ (x1 x2 : Int32), Rel σ τ → Agr (fun k => k = 0 ∨ k = 2 ∨ k = 3) f_L_draw vI (f_X9_draw N σ x1 x2) (f_X10_draw N τ x1 x2)
/-- what punch owes -/
def Owe_punch (N : Nat) : Prop := ∀ σ τ (x1 x2 x3 : Int32), Rel σ τ → Agr (fun k => k = 0 ∨ k = 1 ∨ k = 3 ∨ k = 2) f_L_punch vI (f_X9_punch N σ x1 x2 x3) (f_X10_punch N τ x1 x2 x3)
/-- what fail owes -/
def Owe_fail (N : Nat) : Prop := ∀ σ τ (x1 x2 : Int32), Rel σ τ → (x2 = 0 ∨ x2 = 1) → Agr (fun k => k = 0 ∨ k = 1 ∨ k = 3) f_L_fail vZ (f_X9_fail N σ x1 x2) (f_X10_fail N τ x1 x2)
/-- what cell owes -/
def Owe_cell (N : Nat) : Prop := ∀ σ τ (x1 x2 : Int32), Rel σ τ → Agr (fun k => k = 0 ∨ k = 1) f_L_cell_ vI (some (f_X9_cell σ x1 x2)) (f_X10_cell N τ x1 x2)
/-- what lines owes -/
def Owe_lines (N : Nat) : Prop := ∀ σ τ (x1 : Int32), Rel σ τ → Agr (fun k => k = 0 ∨ k = 2) f_L_lines vI (f_X9_lines N σ x1) (f_X10_lines N τ x1)
/-- what rings owes -/
def Owe_rings (N : Nat) : Prop := ∀ σ τ (x1 : Int32), Rel σ τ → Agr (fun k => k = 0 ∨ k = 2) f_L_rings vI (f_X9_rings N σ x1) (f_X10_rings N τ x1)
/-- what longest owes -/
def Owe_longest (N : Nat) : Prop := ∀ σ τ (x1 : Int32), Rel σ τ → Agr (fun k => k = 0 ∨ k = 2) f_L_longest vI (f_X9_longest N σ x1) (f_X10_longest N τ x1)
/-- what cost owes -/
def Owe_cost (N : Nat) : Prop := ∀ σ τ (x1 x2 : Int32), Rel σ τ → Agr (fun k => k = 0 ∨ k = 1) f_L_cost vI (f_X9_cost N σ x1 x2) (f_X10_cost N τ x1 x2)
/-- what costByCells owes -/
def Owe_costByCells (N : Nat) : Prop := ∀ σ τ (x1 x2 : Int32), Rel σ τ → Agr (fun k => k = 0 ∨ k = 1) f_L_costByCells vI (f_X9_costByCells N σ x1 x2) (f_X10_costByCells N τ x1 x2)
/-- what climb owes -/
def Owe_climb (N : Nat) : Prop := ∀ σ τ (x1 x2 : Int32), Rel σ τ → Agr (fun k => k = 0 ∨ k = 1) f_L_climb vI (f_X9_climb N σ x1 x2) (f_X10_climb N τ x1 x2)
/-- what tempts owes -/
def Owe_tempts (N : Nat) : Prop := ∀ σ τ (x1 x2 : Int32), Rel σ τ → Agr (fun k => k = 0 ∨ k = 1) f_L_tempts vZ (f_X9_tempts N σ x1 x2) (f_X10_tempts N τ x1 x2)
/-- what courseAt owes -/
def Owe_courseAt (N : Nat) : Prop := ∀ σ τ (x1 x2 : Int32), Rel σ τ → Agr (fun k => k = 0 ∨ k = 1) f_L_courseAt vI (some (f_X9_courseAt σ x1 x2)) (f_X10_courseAt N τ x1 x2)
/-- what courseClimb owes -/
def Owe_courseClimb (N : Nat) : Prop := ∀ σ τ (x1 : Int32), Rel σ τ → Agr (fun k => k = 0 ∨ k = 1) f_L_courseClimb vI (f_X9_courseClimb N σ x1) (f_X10_courseClimb N τ x1)
/-- what courseCost owes -/
def Owe_courseCost (N : Nat) : Prop := ∀ σ τ (x1 : Int32), Rel σ τ → Agr (fun k => k = 0 ∨ k = 1) f_L_courseCost vI (f_X9_courseCost N σ x1) (f_X10_courseCost N τ x1)
/-- what startOf owes -/
def Owe_startOf (N : Nat) : Prop := ∀ σ τ (x1 : Int32), Rel σ τ → Agr (fun k => k = 0 ∨ k = 1) f_L_startOf vI (some (f_X9_startOf σ x1)) (f_X10_startOf N τ x1)
/-- what stateOf owes -/
def Owe_stateOf (N : Nat) : Prop := ∀ σ τ (x1 : Int32), Rel σ τ → Agr (fun k => k = 0 ∨ k = 1) f_L_stateOf vI (f_X9_stateOf N σ x1) (f_X10_stateOf N τ x1)
/-- what split owes -/
def Owe_split (N : Nat) : Prop := ∀ σ τ (x1 x2 : Int32), Rel σ τ → Agr (fun k => k = 0 ∨ k = 1) f_L_split vI (f_X9_split N σ x1 x2) (f_X10_split N τ x1 x2)
/-- what total owes -/
def Owe_total (N : Nat) : Prop := ∀ σ τ (x1 : Int32), Rel σ τ → Agr (fun k => k = 0 ∨ k = 1) f_L_total vI (f_X9_total N σ x1) (f_X10_total N τ x1)
/-- what rank owes -/
def Owe_rank (N : Nat) : Prop := ∀ σ τ (x1 : Int32), Rel σ τ → Agr (fun k => k = 0 ∨ k = 1) f_L_rank vI (f_X9_rank N σ x1) (f_X10_rank N τ x1)
/-- what lost owes -/
def Owe_lost (N : Nat) : Prop := ∀ σ τ (x1 x2 : Int32), Rel σ τ → Agr (fun k => k = 0 ∨ k = 1) f_L_lost vI (f_X9_lost N σ x1 x2) (f_X10_lost N τ x1 x2)
def Owe_spread (N : Nat) : Prop := ∀ σ τ, Rel σ τ → ∃ b σ' τ', f_X9_spread N σ = some (b, σ') ∧ f_X10_spread N τ = some (b, τ') ∧ Rel σ' τ'
def Owe_runners : Prop := ∀ σ τ, Rel σ τ → f_X9_runners σ = (f_X10_runners τ).1 ∧ Rel σ (f_X10_runners τ).2
def Owe_all (N : Nat) : Prop := Owe_runners ∧ Owe_spread N ∧ Owe_setHeight N ∧ Owe_hill N ∧ Owe_setGround N ∧ Owe_control N ∧ Owe_visit N ∧ Owe_arrange N ∧ Owe_enter N ∧ Owe_draw N ∧ Owe_punch N ∧ Owe_fail N ∧ Owe_cell N ∧ Owe_lines N ∧ Owe_rings N ∧ Owe_longest N ∧ Owe_cost N ∧ Owe_costByCells N ∧ Owe_climb N ∧ Owe_tempts N ∧ Owe_courseAt N ∧ Owe_courseClimb N ∧ Owe_courseCost N ∧ Owe_startOf N ∧ Owe_stateOf N ∧ Owe_split N ∧ Owe_total N ∧ Owe_rank N ∧ Owe_lost N
theorem ite_some {c : Prop} {dc : Decidable c} {a b : Option Int32} (h1 : c → a = some 1) (h2 : ¬ c → b = some 1) : (@ite _ c dc a b) = some 1 := by
  by_cases h : c
  · rw [if_pos h]; exact h1 h
  · rw [if_neg h]; exact h2 h
theorem side_eq (x : Int32) : f_X9_sideWithinLimits x = mside x := by
  have hr := tR x
  rw [teq]
  unfold f_X9_sideWithinLimits mside
  rw [tmax, tmin, tl2, tl12]
  split
  · rename_i h
    rw [tle, tl2] at h
    split
    · rename_i h2
      rw [tle, tl12] at h2
      omega
    · rename_i h2
      rw [tle, tl12] at h2
      rw [tl12]
      omega
  · rename_i h
    rw [tle, tl2] at h
    rw [tl2]
    omega
theorem side_in (x : Int32) : 2 ≤ (mside x).toInt ∧ (mside x).toInt ≤ 12 := by
  unfold mside
  split
  · rename_i h
    rw [tle, tl2] at h
    split
    · rename_i h2
      rw [tle, tl12] at h2
      exact ⟨h, h2⟩
    · rw [tl12]; omega
  · rw [tl2]; omega
theorem s0m_n {u0 u1 : Int32} {k : Nat} (h : k ≠ 8) (j : Nat) : (S0m u0 u1).1 k j = 0 := by
  unfold S0m
  dsimp only
  rw [if_neg h]
theorem s0m_8 {u0 u1 : Int32} {j : Nat} (h : j < 24) : (S0m u0 u1).1 8 j = -1 := by
  unfold S0m gneg
  dsimp only
  rw [if_pos rfl, if_pos h]
theorem s0m_i {u0 u1 : Int32} {k : Nat} (h0 : k ≠ 0) (h1 : k ≠ 1) : (S0m u0 u1).2 k = 0 := by
  unfold S0m
  dsimp only
  rw [if_neg h0, if_neg h1]
theorem s0m_0 {u0 u1 : Int32} : (S0m u0 u1).2 0 = mside u0 := by
  unfold S0m
  dsimp only
  rw [if_pos rfl]
theorem s0m_1 {u0 u1 : Int32} : (S0m u0 u1).2 1 = mside u1 := by
  unfold S0m
  dsimp only
  rw [if_neg (by decide), if_pos rfl]
theorem s0c_0 {u0 u1 : Int32} : (S0c u0 u1).2 0 = f_X9_sideWithinLimits u0 := by
  unfold S0c
  dsimp only
  rw [if_pos rfl]
theorem s0c_1 {u0 u1 : Int32} : (S0c u0 u1).2 1 = f_X9_sideWithinLimits u1 := by
  unfold S0c
  dsimp only
  rw [if_neg (by decide), if_pos rfl]
theorem s0c_i {u0 u1 : Int32} {k : Nat} (h0 : k ≠ 0) (h1 : k ≠ 1) : (S0c u0 u1).2 k = 0 := by
  unfold S0c
  dsimp only
  rw [if_neg h0, if_neg h1]
theorem s0_eq {u0 u1 : Int32} {j k : Nat} (h : k ≠ 8) : (S0c u0 u1).1 j = (S0m u0 u1).1 k := by
  unfold S0m S0c
  dsimp only
  rw [if_neg h]
theorem same_start (u0 u1 : Int32) : Same (S0c u0 u1) (S0m u0 u1) := by
  refine ⟨⟨s0_eq (by decide), s0_eq (by decide), s0_eq (by decide), s0_eq (by decide), s0_eq (by decide), s0_eq (by decide), s0_eq (by decide), s0_eq (by decide), s0_eq (by decide), s0_eq (by decide), s0_eq (by decide)⟩, fun k h => ?_, ?_, ?_, ?_, ?_, ?_⟩
  · rw [s0m_i (by decide) (by decide), tl0] at h; omega
  · rw [s0c_0, s0m_0]; exact side_eq u0
  · rw [s0c_1, s0m_1]; exact side_eq u1
  · rw [s0c_i (by decide) (by decide), s0m_i (by decide) (by decide)]
  · rw [s0c_i (by decide) (by decide), s0m_i (by decide) (by decide)]
  · rw [s0c_i (by decide) (by decide), s0m_i (by decide) (by decide)]
theorem inv_start (u0 u1 : Int32) : Inv (S0m u0 u1) := by
  refine ⟨?_, ?_, ?_, ?_, ?_, ?_⟩
  · refine ⟨by rw [s0m_0]; exact (side_in u0).1, by rw [s0m_0]; exact (side_in u0).2, by rw [s0m_1]; exact (side_in u1).1, by rw [s0m_1]; exact (side_in u1).2, fun k => ?_, fun k => ?_⟩
    · rw [s0m_n (by decide), tl0]; omega
    · rw [s0m_n (by decide), tl0]; omega
  · have f2 : (S0m u0 u1).2 2 = 0 := s0m_i (by decide) (by decide)
    refine ⟨by rw [f2, tl0]; omega, by rw [f2, tl0]; omega, fun k h => ?_, fun k => ?_⟩
    · rw [f2, tl0] at h; omega
    · exact Or.inl (s0m_n (by decide) k)
  · refine ⟨fun c => ?_, fun c j hc h => ?_, fun c i j hc hi h => ?_⟩
    · rw [s0m_n (by decide), tl0]; omega
    · rw [s0m_n (by decide), tl0] at h; omega
    · rw [s0m_n (by decide), tl0] at h; omega
  · have f3 : (S0m u0 u1).2 3 = 0 := s0m_i (by decide) (by decide)
    refine ⟨by rw [f3, tl0]; omega, by rw [f3, tl0]; omega, fun k h => ?_, fun k h => ?_⟩
    · rw [f3, tl0] at h; omega
    · rw [f3, tl0] at h; omega
  · have f4 : (S0m u0 u1).2 4 = 0 := s0m_i (by decide) (by decide)
    refine ⟨Or.inl f4, fun k _ h => s0m_8 h, fun _ k h => s0m_8 h, fun h => ?_⟩
    rw [f4, teq, tl0, tl1] at h
    omega
  · refine ⟨fun k => ?_, fun _ k => s0m_n (by decide) k, fun i j hi h => ?_, fun i j k hi hj h => ?_⟩
    · rw [s0m_n (by decide), tl0]; omega
    · rw [s0m_n (by decide), tl0] at h; omega
    · rw [s0m_n (by decide), tl0] at h; omega
theorem rel_start (u0 u1 : Int32) : Rel (S0c u0 u1) (S0m u0 u1) := ⟨same_start u0 u1, inv_start u0 u1⟩
