/-! ===== pure: the class's state and the reference's, side by side ===== -/
/-- the map -/
def InvT (τ : gSt) : Prop := 2 ≤ (τ.2 0).toInt ∧ (τ.2 0).toInt ≤ 12 ∧ 2 ≤ (τ.2 1).toInt ∧ (τ.2 1).toInt ≤ 12 ∧ (∀ k, 0 ≤ (τ.1 0 k).toInt ∧ (τ.1 0 k).toInt ≤ 255) ∧ (∀ k, 0 ≤ (τ.1 1 k).toInt ∧ (τ.1 1 k).toInt ≤ 4)
/-- the controls -/
def InvC (τ : gSt) : Prop := 0 ≤ (τ.2 2).toInt ∧ (τ.2 2).toInt ≤ 12 ∧ (∀ k : Nat, (k : Int) < (τ.2 2).toInt → 0 ≤ (τ.1 2 k).toInt ∧ (τ.1 2 k).toInt % 12 < (τ.2 0).toInt ∧ (τ.1 2 k).toInt / 12 < (τ.2 1).toInt) ∧ (∀ k, τ.1 3 k = 0 ∨ τ.1 3 k = 1)
/-- the courses -/
def InvV (τ : gSt) : Prop := (∀ c, 0 ≤ (τ.1 5 c).toInt ∧ (τ.1 5 c).toInt ≤ 6) ∧ (∀ c j : Nat, c < 5 → (j : Int) < (τ.1 5 c).toInt → 0 ≤ (τ.1 4 (6 * c + j)).toInt ∧ (τ.1 4 (6 * c + j)).toInt < (τ.2 2).toInt) ∧ (∀ c i j : Nat, c < 5 → i < j → (j : Int) < (τ.1 5 c).toInt → τ.1 4 (6 * c + i) ≠ τ.1 4 (6 * c + j))
/-- the runners -/
def InvE (τ : gSt) : Prop := 0 ≤ (τ.2 3).toInt ∧ (τ.2 3).toInt ≤ 24 ∧ (∀ k : Nat, (k : Int) < (τ.2 3).toInt → 0 ≤ (τ.1 6 k).toInt ∧ (τ.1 6 k).toInt ≤ 4 ∧ 2 ≤ (τ.1 5 (τ.1 6 k).toInt.toNat).toInt) ∧ (∀ k : Nat, (k : Int) < (τ.2 3).toInt → 0 ≤ (τ.1 7 k).toInt ∧ (τ.1 7 k).toInt ≤ 7)
/-- the starts -/
def InvS (τ : gSt) : Prop := (τ.2 4 = 0 ∨ τ.2 4 = 1) ∧ (∀ k : Nat, (τ.2 3).toInt ≤ (k : Int) → k < 24 → τ.1 8 k = -1) ∧ (τ.2 4 = 0 → ∀ k : Nat, k < 24 → τ.1 8 k = -1) ∧ (τ.2 4 = 1 → ∀ k : Nat, (k : Int) < (τ.2 3).toInt → 0 ≤ (τ.1 8 k).toInt ∧ (τ.1 8 k).toInt ≤ 230)
/-- the punches -/
def InvP (τ : gSt) : Prop := (∀ k, 0 ≤ (τ.1 11 k).toInt ∧ (τ.1 11 k).toInt ≤ 20) ∧ (τ.2 4 = 0 → ∀ k, τ.1 11 k = 0) ∧ (∀ i j : Nat, i < 24 → (j : Int) < (τ.1 11 i).toInt → 0 ≤ (τ.1 9 (20 * i + j)).toInt ∧ (τ.1 9 (20 * i + j)).toInt < (τ.2 2).toInt ∧ (τ.1 8 i).toInt ≤ (τ.1 10 (20 * i + j)).toInt ∧ (τ.1 10 (20 * i + j)).toInt ≤ 9999) ∧ (∀ i j k : Nat, i < 24 → j < k → (k : Int) < (τ.1 11 i).toInt → (τ.1 10 (20 * i + j)).toInt ≤ (τ.1 10 (20 * i + k)).toInt)
def Inv (τ : gSt) : Prop := InvT τ ∧ InvC τ ∧ InvV τ ∧ InvE τ ∧ InvS τ ∧ InvP τ
/-- both hold the same -/
def Same (σ τ : gSt) : Prop := (σ.1 0 = τ.1 0 ∧ σ.1 1 = τ.1 1 ∧ σ.1 8 = τ.1 2 ∧ σ.1 9 = τ.1 3 ∧ σ.1 10 = τ.1 4 ∧ σ.1 11 = τ.1 5 ∧ σ.1 16 = τ.1 6 ∧ σ.1 17 = τ.1 7 ∧ σ.1 20 = τ.1 11 ∧ σ.1 21 = τ.1 9 ∧ σ.1 22 = τ.1 10) ∧ (∀ k : Nat, (k : Int) < (τ.2 3).toInt → σ.1 19 k = τ.1 8 k) ∧ (σ.2 0 = τ.2 0 ∧ σ.2 1 = τ.2 1 ∧ σ.2 4 = τ.2 2 ∧ σ.2 10 = τ.2 3 ∧ σ.2 11 = τ.2 4)
def Rel (σ τ : gSt) : Prop := Same σ τ ∧ Inv τ
/-- what a call owes: the same exception, the same answer, and states that are the same again -/
def Agr (P : Nat → Prop) (g : Nat → Int32) (v : Int32 → Int32 → Prop) (o9 : Option (Nat × Int32 × gSt)) (o10 : Option (Int32 × gSt)) : Prop := ∃ k r σ' b τ', o9 = some (k, r, σ') ∧ o10 = some (b, τ') ∧ P k ∧ τ'.2 6 = g k ∧ (k = 0 → v b r) ∧ Rel σ' τ'
def vI (b r : Int32) : Prop := b = r
def vZ (b r : Int32) : Prop := b = 0 ↔ r = 0
theorem lgc (x : Int64) : lg_cmp x x = 0 := by
  unfold lg_cmp
  rw [if_neg (show ¬ x > x from Int64.lt_irrefl), if_pos rfl]
theorem ul0 (f : Nat → Int64) (x : Int64) : vp_updL f 0 x 0 = x := by simp [vp_updL]
/-- what setHeight owes -/
def Owe_setHeight (N : Nat) : Prop := ∀ σ τ (x1 x2 x3 : Int32), Rel σ τ → Agr (fun k => k = 0 ∨ k = 1 ∨ k = 2) f_L_setHeight vI (some (f_X9_setHeight σ x1 x2 x3)) (f_X10_setHeight N τ x1 x2 x3)
/-- what hill owes -/
def Owe_hill (N : Nat) : Prop := ∀ σ τ (x1 x2 x3 x4 : Int32), Rel σ τ → Agr (fun k => k = 0 ∨ k = 1 ∨ k = 2) f_L_hill vI (f_X9_hill N σ x1 x2 x3 x4) (f_X10_hill N τ x1 x2 x3 x4)
/-- what setGround owes -/
def Owe_setGround (N : Nat) : Prop := ∀ σ τ (x1 x2 x3 x4 x5 : Int32), Rel σ τ → Agr (fun k => k = 0 ∨ k = 1 ∨ k = 2) f_L_setGround vI (f_X9_setGround N σ x1 x2 x3 x4 x5) (f_X10_setGround N τ x1 x2 x3 x4 x5)
/-- what control owes -/
def Owe_control (N : Nat) : Prop := ∀ σ τ (x1 x2 : Int32), Rel σ τ → Agr (fun k => k = 0 ∨ k = 1 ∨ k = 3) f_L_control vI (f_X9_control N σ x1 x2) (f_X10_control N τ x1 x2)
/-- what visit owes -/
def Owe_visit (N : Nat) : Prop := ∀ σ τ (x1 x2 : Int32), Rel σ τ → Agr (fun k => k = 0 ∨ k = 1 ∨ k = 3) f_L_visit vI (f_X9_visit N σ x1 x2) (f_X10_visit N τ x1 x2)
/-- what arrange owes -/
def Owe_arrange (N : Nat) : Prop := ∀ σ τ (x1 x2 : Int32), Rel σ τ → Agr (fun k => k = 0 ∨ k = 1 ∨ k = 2 ∨ k = 3) f_L_arrange vI (f_X9_arrange N σ x1 x2) (f_X10_arrange N τ x1 x2)
/-- what enter owes -/
def Owe_enter (N : Nat) : Prop := ∀ σ τ (x1 x2 : Int32), Rel σ τ → Agr (fun k => k = 0 ∨ k = 1 ∨ k = 2 ∨ k = 3) f_L_enter vI (some (f_X9_enter σ x1 x2)) (f_X10_enter N τ x1 x2)
/-- what draw owes -/
def Owe_draw (N : Nat) : Prop := ∀ σ τ (x1 x2 : Int32), Rel σ τ → Agr (fun k => k = 0 ∨ k = 2 ∨ k = 3) f_L_draw vI (f_X9_draw N σ x1 x2) (f_X10_draw N τ x1 x2)
/-- what punch owes -/
def Owe_punch (N : Nat) : Prop := ∀ σ τ (x1 x2 x3 : Int32), Rel σ τ → Agr (fun k => k = 0 ∨ k = 1 ∨ k = 3 ∨ k = 2) f_L_punch vI (f_X9_punch N σ x1 x2 x3) (f_X10_punch N τ x1 x2 x3)
/-- what fail owes -/
def Owe_fail (N : Nat) : Prop := ∀ σ τ (x1 x2 : Int32), Rel σ τ → (x2 = 0 ∨ x2 = 1) → Agr (fun k => k = 0 ∨ k = 1 ∨ k = 3) f_L_fail vZ (f_X9_fail N σ x1 x2) (f_X10_fail N τ x1 x2)
/-- what cell owes -/
def Owe_cell (N : Nat) : Prop := ∀ σ τ (x1 x2 : Int32), Rel σ τ → Agr (fun k => k = 0 ∨ k = 1) f_L_cell_ vI (some (f_X9_cell σ x1 x2)) (f_X10_cell N τ x1 x2)
/-- what lines owes -/
def Owe_lines (N : Nat) : Prop := ∀ σ τ (x1 : Int32), Rel σ τ → Agr (fun k => k = 0 ∨ k = 2) f_L_lines vI (f_X9_lines N σ x1) (f_X10_lines N τ x1)
/-- what rings owes -/
def Owe_rings (N : Nat) : Prop := ∀ σ τ (x1 : Int32), Rel σ τ → Agr (fun k => k = 0 ∨ k = 2) f_L_rings vI (f_X9_rings N σ x1) (f_X10_rings N τ x1)
/-- what longest owes -/
def Owe_longest (N : Nat) : Prop := ∀ σ τ (x1 : Int32), Rel σ τ → Agr (fun k => k = 0 ∨ k = 2) f_L_longest vI (f_X9_longest N σ x1) (f_X10_longest N τ x1)
/-- what cost owes -/
def Owe_cost (N : Nat) : Prop := ∀ σ τ (x1 x2 : Int32), Rel σ τ → Agr (fun k => k = 0 ∨ k = 1) f_L_cost vI (f_X9_cost N σ x1 x2) (f_X10_cost N τ x1 x2)
/-- what costByCells owes -/
def Owe_costByCells (N : Nat) : Prop := ∀ σ τ (x1 x2 : Int32), Rel σ τ → Agr (fun k => k = 0 ∨ k = 1) f_L_costByCells vI (f_X9_costByCells N σ x1 x2) (f_X10_costByCells N τ x1 x2)
/-- what climb owes -/
def Owe_climb (N : Nat) : Prop := ∀ σ τ (x1 x2 : Int32), Rel σ τ → Agr (fun k => k = 0 ∨ k = 1) f_L_climb vI (f_X9_climb N σ x1 x2) (f_X10_climb N τ x1 x2)
/-- what tempts owes -/
def Owe_tempts (N : Nat) : Prop := ∀ σ τ (x1 x2 : Int32), Rel σ τ → Agr (fun k => k = 0 ∨ k = 1) f_L_tempts vZ (f_X9_tempts N σ x1 x2) (f_X10_tempts N τ x1 x2)
/-- what courseAt owes -/
def Owe_courseAt (N : Nat) : Prop := ∀ σ τ (x1 x2 : Int32), Rel σ τ → Agr (fun k => k = 0 ∨ k = 1) f_L_courseAt vI (some (f_X9_courseAt σ x1 x2)) (f_X10_courseAt N τ x1 x2)
/-- what courseClimb owes -/
def Owe_courseClimb (N : Nat) : Prop := ∀ σ τ (x1 : Int32), Rel σ τ → Agr (fun k => k = 0 ∨ k = 1) f_L_courseClimb vI (f_X9_courseClimb N σ x1) (f_X10_courseClimb N τ x1)
/-- what courseCost owes -/
def Owe_courseCost (N : Nat) : Prop := ∀ σ τ (x1 : Int32), Rel σ τ → Agr (fun k => k = 0 ∨ k = 1) f_L_courseCost vI (f_X9_courseCost N σ x1) (f_X10_courseCost N τ x1)
/-- what startOf owes -/
def Owe_startOf (N : Nat) : Prop := ∀ σ τ (x1 : Int32), Rel σ τ → Agr (fun k => k = 0 ∨ k = 1) f_L_startOf vI (some (f_X9_startOf σ x1)) (f_X10_startOf N τ x1)
/-- what stateOf owes -/
def Owe_stateOf (N : Nat) : Prop := ∀ σ τ (x1 : Int32), Rel σ τ → Agr (fun k => k = 0 ∨ k = 1) f_L_stateOf vI (f_X9_stateOf N σ x1) (f_X10_stateOf N τ x1)
/-- what split owes -/
def Owe_split (N : Nat) : Prop := ∀ σ τ (x1 x2 : Int32), Rel σ τ → Agr (fun k => k = 0 ∨ k = 1) f_L_split vI (f_X9_split N σ x1 x2) (f_X10_split N τ x1 x2)
/-- what total owes -/
def Owe_total (N : Nat) : Prop := ∀ σ τ (x1 : Int32), Rel σ τ → Agr (fun k => k = 0 ∨ k = 1) f_L_total vI (f_X9_total N σ x1) (f_X10_total N τ x1)
/-- what rank owes -/
def Owe_rank (N : Nat) : Prop := ∀ σ τ (x1 : Int32), Rel σ τ → Agr (fun k => k = 0 ∨ k = 1) f_L_rank vI (f_X9_rank N σ x1) (f_X10_rank N τ x1)
/-- what lost owes -/
def Owe_lost (N : Nat) : Prop := ∀ σ τ (x1 x2 : Int32), Rel σ τ → Agr (fun k => k = 0 ∨ k = 1) f_L_lost vI (f_X9_lost N σ x1 x2) (f_X10_lost N τ x1 x2)
def Owe_spread (N : Nat) : Prop := ∀ σ τ, Rel σ τ → ∃ b σ' τ', f_X9_spread N σ = some (b, σ') ∧ f_X10_spread N τ = some (b, τ') ∧ Rel σ' τ'
def Owe_runners : Prop := ∀ σ τ, Rel σ τ → f_X9_runners σ = (f_X10_runners τ).1 ∧ Rel σ (f_X10_runners τ).2
section Cases
variable {N L : Nat} {xs : Nat → Int32} {i : Int32} {S : lSt} {jn : lSt → Option Int32}
theorem k_case0 (g1 : ¬ (i + 1 < 0 ∨ L ≤ (i + 1).toNatClampNeg)) (g2 : ¬ (i + 2 < 0 ∨ L ≤ (i + 2).toNatClampNeg)) (g3 : ¬ (i + 3 < 0 ∨ L ≤ (i + 3).toNatClampNeg)) (hR : Rel S.1 S.2.1) (A : Owe_setHeight N) (hj : ∀ S2 : lSt, Rel S2.1 S2.2.1 → jn S2 = some 1) : f_L_case0 N L xs i S jn = some 1 := by
  obtain ⟨k, r, s1, b, t1, h9, h10, hP, ht, hb, h⟩ := A _ _ (xs (i + 1).toNatClampNeg) (xs (i + 2).toNatClampNeg) (xs (i + 3).toNatClampNeg) hR
  unfold f_L_case0
  simp only [gJoin0, if_neg g1, if_neg g2, if_neg g3]
  rw [h9, Option.bind_some, h10, if_neg (fun e => e hP), Option.bind_some]
  have ht2 : f_X10_thrown t1 = f_L_setHeight k := ht
  rw [if_pos ht2]
  by_cases hk : f_L_setHeight k = 0
  · rw [if_pos hk]
    have k0 : k = 0 := by
      rcases hP with h | h | h <;> first | rfl | (subst h; revert hk; decide)
    subst k0
    have hb : b = r := hb rfl
    subst hb
    have ho : o_L_setHeight 0 b S.2.2 0 = b.toInt64 := ul0 S.2.2 _
    rw [ho, lgc, if_pos rfl]
    exact hj (s1, t1, o_L_setHeight 0 b S.2.2) h
  · rw [if_neg hk]
    exact hj (s1, t1, o_L_setHeight k r S.2.2) h
theorem k_case1 (g1 : ¬ (i + 1 < 0 ∨ L ≤ (i + 1).toNatClampNeg)) (g2 : ¬ (i + 2 < 0 ∨ L ≤ (i + 2).toNatClampNeg)) (g3 : ¬ (i + 3 < 0 ∨ L ≤ (i + 3).toNatClampNeg)) (g4 : ¬ (i + 4 < 0 ∨ L ≤ (i + 4).toNatClampNeg)) (hR : Rel S.1 S.2.1) (A : Owe_hill N) (hj : ∀ S2 : lSt, Rel S2.1 S2.2.1 → jn S2 = some 1) : f_L_case1 N L xs i S jn = some 1 := by
  obtain ⟨k, r, s1, b, t1, h9, h10, hP, ht, hb, h⟩ := A _ _ (xs (i + 1).toNatClampNeg) (xs (i + 2).toNatClampNeg) (xs (i + 3).toNatClampNeg) (xs (i + 4).toNatClampNeg) hR
  unfold f_L_case1
  simp only [gJoin0, if_neg g1, if_neg g2, if_neg g3, if_neg g4]
  rw [h9, Option.bind_some, h10, if_neg (fun e => e hP), Option.bind_some]
  have ht2 : f_X10_thrown t1 = f_L_hill k := ht
  rw [if_pos ht2]
  by_cases hk : f_L_hill k = 0
  · rw [if_pos hk]
    have k0 : k = 0 := by
      rcases hP with h | h | h <;> first | rfl | (subst h; revert hk; decide)
    subst k0
    have hb : b = r := hb rfl
    subst hb
    have ho : o_L_hill 0 b S.2.2 0 = b.toInt64 := ul0 S.2.2 _
    rw [ho, lgc, if_pos rfl]
    exact hj (s1, t1, o_L_hill 0 b S.2.2) h
  · rw [if_neg hk]
    exact hj (s1, t1, o_L_hill k r S.2.2) h
theorem k_case2 (g1 : ¬ (i + 1 < 0 ∨ L ≤ (i + 1).toNatClampNeg)) (g2 : ¬ (i + 2 < 0 ∨ L ≤ (i + 2).toNatClampNeg)) (g3 : ¬ (i + 3 < 0 ∨ L ≤ (i + 3).toNatClampNeg)) (g4 : ¬ (i + 4 < 0 ∨ L ≤ (i + 4).toNatClampNeg)) (g5 : ¬ (i + 5 < 0 ∨ L ≤ (i + 5).toNatClampNeg)) (hR : Rel S.1 S.2.1) (A : Owe_setGround N) (hj : ∀ S2 : lSt, Rel S2.1 S2.2.1 → jn S2 = some 1) : f_L_case2 N L xs i S jn = some 1 := by
  obtain ⟨k, r, s1, b, t1, h9, h10, hP, ht, hb, h⟩ := A _ _ (xs (i + 1).toNatClampNeg) (xs (i + 2).toNatClampNeg) (xs (i + 3).toNatClampNeg) (xs (i + 4).toNatClampNeg) (xs (i + 5).toNatClampNeg) hR
  unfold f_L_case2
  simp only [gJoin0, if_neg g1, if_neg g2, if_neg g3, if_neg g4, if_neg g5]
  rw [h9, Option.bind_some, h10, if_neg (fun e => e hP), Option.bind_some]
  have ht2 : f_X10_thrown t1 = f_L_setGround k := ht
  rw [if_pos ht2]
  by_cases hk : f_L_setGround k = 0
  · rw [if_pos hk]
    have k0 : k = 0 := by
      rcases hP with h | h | h <;> first | rfl | (subst h; revert hk; decide)
    subst k0
    have hb : b = r := hb rfl
    subst hb
    have ho : o_L_setGround 0 b S.2.2 0 = b.toInt64 := ul0 S.2.2 _
    rw [ho, lgc, if_pos rfl]
    exact hj (s1, t1, o_L_setGround 0 b S.2.2) h
  · rw [if_neg hk]
    exact hj (s1, t1, o_L_setGround k r S.2.2) h
theorem k_case3 (g1 : ¬ (i + 1 < 0 ∨ L ≤ (i + 1).toNatClampNeg)) (g2 : ¬ (i + 2 < 0 ∨ L ≤ (i + 2).toNatClampNeg)) (hR : Rel S.1 S.2.1) (A : Owe_control N) (hj : ∀ S2 : lSt, Rel S2.1 S2.2.1 → jn S2 = some 1) : f_L_case3 N L xs i S jn = some 1 := by
  obtain ⟨k, r, s1, b, t1, h9, h10, hP, ht, hb, h⟩ := A _ _ (xs (i + 1).toNatClampNeg) (xs (i + 2).toNatClampNeg) hR
  unfold f_L_case3
  simp only [gJoin0, if_neg g1, if_neg g2]
  rw [h9, Option.bind_some, h10, if_neg (fun e => e hP), Option.bind_some]
  have ht2 : f_X10_thrown t1 = f_L_control k := ht
  rw [if_pos ht2]
  by_cases hk : f_L_control k = 0
  · rw [if_pos hk]
    have k0 : k = 0 := by
      rcases hP with h | h | h <;> first | rfl | (subst h; revert hk; decide)
    subst k0
    have hb : b = r := hb rfl
    subst hb
    have ho : o_L_control 0 b S.2.2 0 = b.toInt64 := ul0 S.2.2 _
    rw [ho, lgc, if_pos rfl]
    exact hj (s1, t1, o_L_control 0 b S.2.2) h
  · rw [if_neg hk]
    exact hj (s1, t1, o_L_control k r S.2.2) h
theorem k_case4 (g1 : ¬ (i + 1 < 0 ∨ L ≤ (i + 1).toNatClampNeg)) (g2 : ¬ (i + 2 < 0 ∨ L ≤ (i + 2).toNatClampNeg)) (hR : Rel S.1 S.2.1) (A : Owe_visit N) (hj : ∀ S2 : lSt, Rel S2.1 S2.2.1 → jn S2 = some 1) : f_L_case4 N L xs i S jn = some 1 := by
  obtain ⟨k, r, s1, b, t1, h9, h10, hP, ht, hb, h⟩ := A _ _ (xs (i + 1).toNatClampNeg) (xs (i + 2).toNatClampNeg) hR
  unfold f_L_case4
  simp only [gJoin0, if_neg g1, if_neg g2]
  rw [h9, Option.bind_some, h10, if_neg (fun e => e hP), Option.bind_some]
  have ht2 : f_X10_thrown t1 = f_L_visit k := ht
  rw [if_pos ht2]
  by_cases hk : f_L_visit k = 0
  · rw [if_pos hk]
    have k0 : k = 0 := by
      rcases hP with h | h | h <;> first | rfl | (subst h; revert hk; decide)
    subst k0
    have hb : b = r := hb rfl
    subst hb
    have ho : o_L_visit 0 b S.2.2 0 = b.toInt64 := ul0 S.2.2 _
    rw [ho, lgc, if_pos rfl]
    exact hj (s1, t1, o_L_visit 0 b S.2.2) h
  · rw [if_neg hk]
    exact hj (s1, t1, o_L_visit k r S.2.2) h
theorem k_case5 (g1 : ¬ (i + 1 < 0 ∨ L ≤ (i + 1).toNatClampNeg)) (g2 : ¬ (i + 2 < 0 ∨ L ≤ (i + 2).toNatClampNeg)) (hR : Rel S.1 S.2.1) (A : Owe_arrange N) (hj : ∀ S2 : lSt, Rel S2.1 S2.2.1 → jn S2 = some 1) : f_L_case5 N L xs i S jn = some 1 := by
  obtain ⟨k, r, s1, b, t1, h9, h10, hP, ht, hb, h⟩ := A _ _ (xs (i + 1).toNatClampNeg) (xs (i + 2).toNatClampNeg) hR
  unfold f_L_case5
  simp only [gJoin0, if_neg g1, if_neg g2]
  rw [h9, Option.bind_some, h10, if_neg (fun e => e hP), Option.bind_some]
  have ht2 : f_X10_thrown t1 = f_L_arrange k := ht
  rw [if_pos ht2]
  by_cases hk : f_L_arrange k = 0
  · rw [if_pos hk]
    have k0 : k = 0 := by
      rcases hP with h | h | h | h <;> first | rfl | (subst h; revert hk; decide)
    subst k0
    have hb : b = r := hb rfl
    subst hb
    have ho : o_L_arrange 0 b S.2.2 0 = b.toInt64 := ul0 S.2.2 _
    rw [ho, lgc, if_pos rfl]
    exact hj (s1, t1, o_L_arrange 0 b S.2.2) h
  · rw [if_neg hk]
    exact hj (s1, t1, o_L_arrange k r S.2.2) h
theorem k_case6 (g1 : ¬ (i + 1 < 0 ∨ L ≤ (i + 1).toNatClampNeg)) (g2 : ¬ (i + 2 < 0 ∨ L ≤ (i + 2).toNatClampNeg)) (hR : Rel S.1 S.2.1) (A : Owe_enter N) (hj : ∀ S2 : lSt, Rel S2.1 S2.2.1 → jn S2 = some 1) : f_L_case6 N L xs i S jn = some 1 := by
  obtain ⟨k, r, s1, b, t1, h9, h10, hP, ht, hb, h⟩ := A _ _ (xs (i + 1).toNatClampNeg) (xs (i + 2).toNatClampNeg) hR
  unfold f_L_case6
  simp only [gJoin0, if_neg g1, if_neg g2]
  rw [h9, Option.bind_some, h10, if_neg (fun e => e hP), Option.bind_some]
  have ht2 : f_X10_thrown t1 = f_L_enter k := ht
  rw [if_pos ht2]
  by_cases hk : f_L_enter k = 0
  · rw [if_pos hk]
    have k0 : k = 0 := by
      rcases hP with h | h | h | h <;> first | rfl | (subst h; revert hk; decide)
    subst k0
    have hb : b = r := hb rfl
    subst hb
    have ho : o_L_enter 0 b S.2.2 0 = b.toInt64 := ul0 S.2.2 _
    rw [ho, lgc, if_pos rfl]
    exact hj (s1, t1, o_L_enter 0 b S.2.2) h
  · rw [if_neg hk]
    exact hj (s1, t1, o_L_enter k r S.2.2) h
theorem k_case7 (g1 : ¬ (i + 1 < 0 ∨ L ≤ (i + 1).toNatClampNeg)) (g2 : ¬ (i + 2 < 0 ∨ L ≤ (i + 2).toNatClampNeg)) (hR : Rel S.1 S.2.1) (A : Owe_draw N) (hj : ∀ S2 : lSt, Rel S2.1 S2.2.1 → jn S2 = some 1) : f_L_case7 N L xs i S jn = some 1 := by
  obtain ⟨k, r, s1, b, t1, h9, h10, hP, ht, hb, h⟩ := A _ _ (xs (i + 1).toNatClampNeg) (xs (i + 2).toNatClampNeg) hR
  unfold f_L_case7
  simp only [gJoin0, if_neg g1, if_neg g2]
  rw [h9, Option.bind_some, h10, if_neg (fun e => e hP), Option.bind_some]
  have ht2 : f_X10_thrown t1 = f_L_draw k := ht
  rw [if_pos ht2]
  by_cases hk : f_L_draw k = 0
  · rw [if_pos hk]
    have k0 : k = 0 := by
      rcases hP with h | h | h <;> first | rfl | (subst h; revert hk; decide)
    subst k0
    have hb : b = r := hb rfl
    subst hb
    have ho : o_L_draw 0 b S.2.2 0 = b.toInt64 := ul0 S.2.2 _
    rw [ho, lgc, if_pos rfl]
    exact hj (s1, t1, o_L_draw 0 b S.2.2) h
  · rw [if_neg hk]
    exact hj (s1, t1, o_L_draw k r S.2.2) h
theorem k_case8 (g1 : ¬ (i + 1 < 0 ∨ L ≤ (i + 1).toNatClampNeg)) (g2 : ¬ (i + 2 < 0 ∨ L ≤ (i + 2).toNatClampNeg)) (g3 : ¬ (i + 3 < 0 ∨ L ≤ (i + 3).toNatClampNeg)) (hR : Rel S.1 S.2.1) (A : Owe_punch N) (hj : ∀ S2 : lSt, Rel S2.1 S2.2.1 → jn S2 = some 1) : f_L_case8 N L xs i S jn = some 1 := by
  obtain ⟨k, r, s1, b, t1, h9, h10, hP, ht, hb, h⟩ := A _ _ (xs (i + 1).toNatClampNeg) (xs (i + 2).toNatClampNeg) (xs (i + 3).toNatClampNeg) hR
  unfold f_L_case8
  simp only [gJoin0, if_neg g1, if_neg g2, if_neg g3]
  rw [h9, Option.bind_some, h10, if_neg (fun e => e hP), Option.bind_some]
  have ht2 : f_X10_thrown t1 = f_L_punch k := ht
  rw [if_pos ht2]
  by_cases hk : f_L_punch k = 0
  · rw [if_pos hk]
    have k0 : k = 0 := by
      rcases hP with h | h | h | h <;> first | rfl | (subst h; revert hk; decide)
    subst k0
    have hb : b = r := hb rfl
    subst hb
    have ho : o_L_punch 0 b S.2.2 0 = b.toInt64 := ul0 S.2.2 _
    rw [ho, lgc, if_pos rfl]
    exact hj (s1, t1, o_L_punch 0 b S.2.2) h
  · rw [if_neg hk]
    exact hj (s1, t1, o_L_punch k r S.2.2) h
theorem k_case9 (g1 : ¬ (i + 1 < 0 ∨ L ≤ (i + 1).toNatClampNeg)) (g2 : ¬ (i + 2 < 0 ∨ L ≤ (i + 2).toNatClampNeg)) (hR : Rel S.1 S.2.1) (A : Owe_fail N) (hj : ∀ S2 : lSt, Rel S2.1 S2.2.1 → jn S2 = some 1) : f_L_case9 N L xs i S jn = some 1 := by
  have go : ∀ x2 : Int32, x2 = (if xs (i + 2).toNatClampNeg = 0 then 0 else 1) → f_L_case9 N L xs i S jn = some 1 := by
    intro x2 hx
    obtain ⟨k, r, s1, b, t1, h9, h10, hP, ht, hb, h⟩ := A _ _ (xs (i + 1).toNatClampNeg) x2 hR (by rw [hx]; split <;> simp)
    unfold f_L_case9
    simp only [gJoin1, gJoin0, if_neg g1, if_neg g2]
    have fin : ∀ o9 o10, o9 = some (k, r, s1) → o10 = some (b, t1) → (Option.bind o9 fun q_910 => if ¬ (q_910.1 = 0 ∨ q_910.1 = 1 ∨ q_910.1 = 3) then none else if xs (i + 2).toNatClampNeg = 0 then Option.bind o10 fun q_936 => if f_X10_thrown q_936.2 = f_L_fail q_910.1 then (if f_L_fail q_910.1 = 0 then (if q_936.1 = 0 then if lg_cmp (o_L_fail q_910.1 q_910.2.1 S.2.2 0) 0 = 0 then jn (q_910.2.2, q_936.2, o_L_fail q_910.1 q_910.2.1 S.2.2) else some 0 else if lg_cmp (o_L_fail q_910.1 q_910.2.1 S.2.2 0) 1 = 0 then jn (q_910.2.2, q_936.2, o_L_fail q_910.1 q_910.2.1 S.2.2) else some 0) else jn (q_910.2.2, q_936.2, o_L_fail q_910.1 q_910.2.1 S.2.2)) else some 0 else Option.bind o10 fun q_936 => if f_X10_thrown q_936.2 = f_L_fail q_910.1 then (if f_L_fail q_910.1 = 0 then (if q_936.1 = 0 then if lg_cmp (o_L_fail q_910.1 q_910.2.1 S.2.2 0) 0 = 0 then jn (q_910.2.2, q_936.2, o_L_fail q_910.1 q_910.2.1 S.2.2) else some 0 else if lg_cmp (o_L_fail q_910.1 q_910.2.1 S.2.2 0) 1 = 0 then jn (q_910.2.2, q_936.2, o_L_fail q_910.1 q_910.2.1 S.2.2) else some 0) else jn (q_910.2.2, q_936.2, o_L_fail q_910.1 q_910.2.1 S.2.2)) else some 0) = some 1 := by
      intro o9 o10 e9 e10
      rw [e9, Option.bind_some, e10]
      simp only [Option.bind_some]
      rw [if_neg (fun e => e hP)]
      have ht2 : f_X10_thrown t1 = f_L_fail k := ht
      rw [if_pos ht2, ite_self]
      by_cases hk : f_L_fail k = 0
      · rw [if_pos hk]
        have k0 : k = 0 := by
          rcases hP with h | h | h <;> first | rfl | (subst h; revert hk; decide)
        subst k0
        have hb : b = 0 ↔ r = 0 := hb rfl
        have ho : o_L_fail 0 r S.2.2 0 = (if r = 0 then 0 else 1) := ul0 S.2.2 _
        by_cases hb0 : b = 0
        · rw [if_pos hb0, ho, if_pos (hb.mp hb0), lgc, if_pos rfl]
          exact hj (s1, t1, o_L_fail 0 r S.2.2) h
        · rw [if_neg hb0, ho, if_neg (fun e => hb0 (hb.mpr e)), lgc, if_pos rfl]
          exact hj (s1, t1, o_L_fail 0 r S.2.2) h
      · rw [if_neg hk]
        exact hj (s1, t1, o_L_fail k r S.2.2) h
    by_cases hz : xs (i + 2).toNatClampNeg = 0
    · rw [if_pos hz] at hx
      subst hx
      have := fin _ _ h9 h10
      simp only [hz, if_true] at this ⊢
      exact this
    · rw [if_neg hz] at hx
      subst hx
      have := fin _ _ h9 h10
      simp only [hz, if_false] at this ⊢
      exact this
  exact go _ rfl
theorem k_case10 (g1 : ¬ (i + 1 < 0 ∨ L ≤ (i + 1).toNatClampNeg)) (g2 : ¬ (i + 2 < 0 ∨ L ≤ (i + 2).toNatClampNeg)) (hR : Rel S.1 S.2.1) (A : Owe_cell N) (hj : ∀ S2 : lSt, Rel S2.1 S2.2.1 → jn S2 = some 1) : f_L_case10 N L xs i S jn = some 1 := by
  obtain ⟨k, r, s1, b, t1, h9, h10, hP, ht, hb, h⟩ := A _ _ (xs (i + 1).toNatClampNeg) (xs (i + 2).toNatClampNeg) hR
  unfold f_L_case10
  simp only [gJoin0, if_neg g1, if_neg g2]
  rw [h9, Option.bind_some, h10, if_neg (fun e => e hP), Option.bind_some]
  have ht2 : f_X10_thrown t1 = f_L_cell_ k := ht
  rw [if_pos ht2]
  by_cases hk : f_L_cell_ k = 0
  · rw [if_pos hk]
    have k0 : k = 0 := by
      rcases hP with h | h <;> first | rfl | (subst h; revert hk; decide)
    subst k0
    have hb : b = r := hb rfl
    subst hb
    have ho : o_L_cell_ 0 b S.2.2 0 = b.toInt64 := ul0 S.2.2 _
    rw [ho, lgc, if_pos rfl]
    exact hj (s1, t1, o_L_cell_ 0 b S.2.2) h
  · rw [if_neg hk]
    exact hj (s1, t1, o_L_cell_ k r S.2.2) h
theorem k_case11 (g1 : ¬ (i + 1 < 0 ∨ L ≤ (i + 1).toNatClampNeg)) (hR : Rel S.1 S.2.1) (A : Owe_lines N) (hj : ∀ S2 : lSt, Rel S2.1 S2.2.1 → jn S2 = some 1) : f_L_case11 N L xs i S jn = some 1 := by
  obtain ⟨k, r, s1, b, t1, h9, h10, hP, ht, hb, h⟩ := A _ _ (xs (i + 1).toNatClampNeg) hR
  unfold f_L_case11
  simp only [gJoin0, if_neg g1]
  rw [h9, Option.bind_some, h10, if_neg (fun e => e hP), Option.bind_some]
  have ht2 : f_X10_thrown t1 = f_L_lines k := ht
  rw [if_pos ht2]
  by_cases hk : f_L_lines k = 0
  · rw [if_pos hk]
    have k0 : k = 0 := by
      rcases hP with h | h <;> first | rfl | (subst h; revert hk; decide)
    subst k0
    have hb : b = r := hb rfl
    subst hb
    have ho : o_L_lines 0 b S.2.2 0 = b.toInt64 := ul0 S.2.2 _
    rw [ho, lgc, if_pos rfl]
    exact hj (s1, t1, o_L_lines 0 b S.2.2) h
  · rw [if_neg hk]
    exact hj (s1, t1, o_L_lines k r S.2.2) h
theorem k_case12 (g1 : ¬ (i + 1 < 0 ∨ L ≤ (i + 1).toNatClampNeg)) (hR : Rel S.1 S.2.1) (A : Owe_rings N) (hj : ∀ S2 : lSt, Rel S2.1 S2.2.1 → jn S2 = some 1) : f_L_case12 N L xs i S jn = some 1 := by
  obtain ⟨k, r, s1, b, t1, h9, h10, hP, ht, hb, h⟩ := A _ _ (xs (i + 1).toNatClampNeg) hR
  unfold f_L_case12
  simp only [gJoin0, if_neg g1]
  rw [h9, Option.bind_some, h10, if_neg (fun e => e hP), Option.bind_some]
  have ht2 : f_X10_thrown t1 = f_L_rings k := ht
  rw [if_pos ht2]
  by_cases hk : f_L_rings k = 0
  · rw [if_pos hk]
    have k0 : k = 0 := by
      rcases hP with h | h <;> first | rfl | (subst h; revert hk; decide)
    subst k0
    have hb : b = r := hb rfl
    subst hb
    have ho : o_L_rings 0 b S.2.2 0 = b.toInt64 := ul0 S.2.2 _
    rw [ho, lgc, if_pos rfl]
    exact hj (s1, t1, o_L_rings 0 b S.2.2) h
  · rw [if_neg hk]
    exact hj (s1, t1, o_L_rings k r S.2.2) h
theorem k_case13 (g1 : ¬ (i + 1 < 0 ∨ L ≤ (i + 1).toNatClampNeg)) (hR : Rel S.1 S.2.1) (A : Owe_longest N) (hj : ∀ S2 : lSt, Rel S2.1 S2.2.1 → jn S2 = some 1) : f_L_case13 N L xs i S jn = some 1 := by
  obtain ⟨k, r, s1, b, t1, h9, h10, hP, ht, hb, h⟩ := A _ _ (xs (i + 1).toNatClampNeg) hR
  unfold f_L_case13
  simp only [gJoin0, if_neg g1]
  rw [h9, Option.bind_some, h10, if_neg (fun e => e hP), Option.bind_some]
  have ht2 : f_X10_thrown t1 = f_L_longest k := ht
  rw [if_pos ht2]
  by_cases hk : f_L_longest k = 0
  · rw [if_pos hk]
    have k0 : k = 0 := by
      rcases hP with h | h <;> first | rfl | (subst h; revert hk; decide)
    subst k0
    have hb : b = r := hb rfl
    subst hb
    have ho : o_L_longest 0 b S.2.2 0 = b.toInt64 := ul0 S.2.2 _
    rw [ho, lgc, if_pos rfl]
    exact hj (s1, t1, o_L_longest 0 b S.2.2) h
  · rw [if_neg hk]
    exact hj (s1, t1, o_L_longest k r S.2.2) h
theorem k_case14 (g1 : ¬ (i + 1 < 0 ∨ L ≤ (i + 1).toNatClampNeg)) (g2 : ¬ (i + 2 < 0 ∨ L ≤ (i + 2).toNatClampNeg)) (hR : Rel S.1 S.2.1) (A : Owe_cost N) (hj : ∀ S2 : lSt, Rel S2.1 S2.2.1 → jn S2 = some 1) : f_L_case14 N L xs i S jn = some 1 := by
  obtain ⟨k, r, s1, b, t1, h9, h10, hP, ht, hb, h⟩ := A _ _ (xs (i + 1).toNatClampNeg) (xs (i + 2).toNatClampNeg) hR
  unfold f_L_case14
  simp only [gJoin0, if_neg g1, if_neg g2]
  rw [h9, Option.bind_some, h10, if_neg (fun e => e hP), Option.bind_some]
  have ht2 : f_X10_thrown t1 = f_L_cost k := ht
  rw [if_pos ht2]
  by_cases hk : f_L_cost k = 0
  · rw [if_pos hk]
    have k0 : k = 0 := by
      rcases hP with h | h <;> first | rfl | (subst h; revert hk; decide)
    subst k0
    have hb : b = r := hb rfl
    subst hb
    have ho : o_L_cost 0 b S.2.2 0 = b.toInt64 := ul0 S.2.2 _
    rw [ho, lgc, if_pos rfl]
    exact hj (s1, t1, o_L_cost 0 b S.2.2) h
  · rw [if_neg hk]
    exact hj (s1, t1, o_L_cost k r S.2.2) h
theorem k_case15 (g1 : ¬ (i + 1 < 0 ∨ L ≤ (i + 1).toNatClampNeg)) (g2 : ¬ (i + 2 < 0 ∨ L ≤ (i + 2).toNatClampNeg)) (hR : Rel S.1 S.2.1) (A : Owe_costByCells N) (hj : ∀ S2 : lSt, Rel S2.1 S2.2.1 → jn S2 = some 1) : f_L_case15 N L xs i S jn = some 1 := by
  obtain ⟨k, r, s1, b, t1, h9, h10, hP, ht, hb, h⟩ := A _ _ (xs (i + 1).toNatClampNeg) (xs (i + 2).toNatClampNeg) hR
  unfold f_L_case15
  simp only [gJoin0, if_neg g1, if_neg g2]
  rw [h9, Option.bind_some, h10, if_neg (fun e => e hP), Option.bind_some]
  have ht2 : f_X10_thrown t1 = f_L_costByCells k := ht
  rw [if_pos ht2]
  by_cases hk : f_L_costByCells k = 0
  · rw [if_pos hk]
    have k0 : k = 0 := by
      rcases hP with h | h <;> first | rfl | (subst h; revert hk; decide)
    subst k0
    have hb : b = r := hb rfl
    subst hb
    have ho : o_L_costByCells 0 b S.2.2 0 = b.toInt64 := ul0 S.2.2 _
    rw [ho, lgc, if_pos rfl]
    exact hj (s1, t1, o_L_costByCells 0 b S.2.2) h
  · rw [if_neg hk]
    exact hj (s1, t1, o_L_costByCells k r S.2.2) h
theorem k_case16 (g1 : ¬ (i + 1 < 0 ∨ L ≤ (i + 1).toNatClampNeg)) (g2 : ¬ (i + 2 < 0 ∨ L ≤ (i + 2).toNatClampNeg)) (hR : Rel S.1 S.2.1) (A : Owe_climb N) (hj : ∀ S2 : lSt, Rel S2.1 S2.2.1 → jn S2 = some 1) : f_L_case16 N L xs i S jn = some 1 := by
  obtain ⟨k, r, s1, b, t1, h9, h10, hP, ht, hb, h⟩ := A _ _ (xs (i + 1).toNatClampNeg) (xs (i + 2).toNatClampNeg) hR
  unfold f_L_case16
  simp only [gJoin0, if_neg g1, if_neg g2]
  rw [h9, Option.bind_some, h10, if_neg (fun e => e hP), Option.bind_some]
  have ht2 : f_X10_thrown t1 = f_L_climb k := ht
  rw [if_pos ht2]
  by_cases hk : f_L_climb k = 0
  · rw [if_pos hk]
    have k0 : k = 0 := by
      rcases hP with h | h <;> first | rfl | (subst h; revert hk; decide)
    subst k0
    have hb : b = r := hb rfl
    subst hb
    have ho : o_L_climb 0 b S.2.2 0 = b.toInt64 := ul0 S.2.2 _
    rw [ho, lgc, if_pos rfl]
    exact hj (s1, t1, o_L_climb 0 b S.2.2) h
  · rw [if_neg hk]
    exact hj (s1, t1, o_L_climb k r S.2.2) h
theorem k_case17 (g1 : ¬ (i + 1 < 0 ∨ L ≤ (i + 1).toNatClampNeg)) (g2 : ¬ (i + 2 < 0 ∨ L ≤ (i + 2).toNatClampNeg)) (hR : Rel S.1 S.2.1) (A : Owe_tempts N) (hj : ∀ S2 : lSt, Rel S2.1 S2.2.1 → jn S2 = some 1) : f_L_case17 N L xs i S jn = some 1 := by
  obtain ⟨k, r, s1, b, t1, h9, h10, hP, ht, hb, h⟩ := A _ _ (xs (i + 1).toNatClampNeg) (xs (i + 2).toNatClampNeg) hR
  unfold f_L_case17
  simp only [gJoin0, if_neg g1, if_neg g2]
  rw [h9, Option.bind_some, h10, if_neg (fun e => e hP), Option.bind_some]
  have ht2 : f_X10_thrown t1 = f_L_tempts k := ht
  rw [if_pos ht2]
  by_cases hk : f_L_tempts k = 0
  · rw [if_pos hk]
    have k0 : k = 0 := by
      rcases hP with h | h <;> first | rfl | (subst h; revert hk; decide)
    subst k0
    have hb : b = 0 ↔ r = 0 := hb rfl
    have ho : o_L_tempts 0 r S.2.2 0 = (if r = 0 then 0 else 1) := ul0 S.2.2 _
    simp only [gJoin1]
    by_cases hb0 : b = 0
    · rw [if_pos hb0, ho, if_pos (hb.mp hb0), lgc, if_pos rfl]
      exact hj (s1, t1, o_L_tempts 0 r S.2.2) h
    · rw [if_neg hb0, ho, if_neg (fun e => hb0 (hb.mpr e)), lgc, if_pos rfl]
      exact hj (s1, t1, o_L_tempts 0 r S.2.2) h
  · rw [if_neg hk]
    exact hj (s1, t1, o_L_tempts k r S.2.2) h
theorem k_case18 (g1 : ¬ (i + 1 < 0 ∨ L ≤ (i + 1).toNatClampNeg)) (g2 : ¬ (i + 2 < 0 ∨ L ≤ (i + 2).toNatClampNeg)) (hR : Rel S.1 S.2.1) (A : Owe_courseAt N) (hj : ∀ S2 : lSt, Rel S2.1 S2.2.1 → jn S2 = some 1) : f_L_case18 N L xs i S jn = some 1 := by
  obtain ⟨k, r, s1, b, t1, h9, h10, hP, ht, hb, h⟩ := A _ _ (xs (i + 1).toNatClampNeg) (xs (i + 2).toNatClampNeg) hR
  unfold f_L_case18
  simp only [gJoin0, if_neg g1, if_neg g2]
  rw [h9, Option.bind_some, h10, if_neg (fun e => e hP), Option.bind_some]
  have ht2 : f_X10_thrown t1 = f_L_courseAt k := ht
  rw [if_pos ht2]
  by_cases hk : f_L_courseAt k = 0
  · rw [if_pos hk]
    have k0 : k = 0 := by
      rcases hP with h | h <;> first | rfl | (subst h; revert hk; decide)
    subst k0
    have hb : b = r := hb rfl
    subst hb
    have ho : o_L_courseAt 0 b S.2.2 0 = b.toInt64 := ul0 S.2.2 _
    rw [ho, lgc, if_pos rfl]
    exact hj (s1, t1, o_L_courseAt 0 b S.2.2) h
  · rw [if_neg hk]
    exact hj (s1, t1, o_L_courseAt k r S.2.2) h
theorem k_case19 (g1 : ¬ (i + 1 < 0 ∨ L ≤ (i + 1).toNatClampNeg)) (hR : Rel S.1 S.2.1) (A : Owe_courseClimb N) (hj : ∀ S2 : lSt, Rel S2.1 S2.2.1 → jn S2 = some 1) : f_L_case19 N L xs i S jn = some 1 := by
  obtain ⟨k, r, s1, b, t1, h9, h10, hP, ht, hb, h⟩ := A _ _ (xs (i + 1).toNatClampNeg) hR
  unfold f_L_case19
  simp only [gJoin0, if_neg g1]
  rw [h9, Option.bind_some, h10, if_neg (fun e => e hP), Option.bind_some]
  have ht2 : f_X10_thrown t1 = f_L_courseClimb k := ht
  rw [if_pos ht2]
  by_cases hk : f_L_courseClimb k = 0
  · rw [if_pos hk]
    have k0 : k = 0 := by
      rcases hP with h | h <;> first | rfl | (subst h; revert hk; decide)
    subst k0
    have hb : b = r := hb rfl
    subst hb
    have ho : o_L_courseClimb 0 b S.2.2 0 = b.toInt64 := ul0 S.2.2 _
    rw [ho, lgc, if_pos rfl]
    exact hj (s1, t1, o_L_courseClimb 0 b S.2.2) h
  · rw [if_neg hk]
    exact hj (s1, t1, o_L_courseClimb k r S.2.2) h
theorem k_case20 (g1 : ¬ (i + 1 < 0 ∨ L ≤ (i + 1).toNatClampNeg)) (hR : Rel S.1 S.2.1) (A : Owe_courseCost N) (hj : ∀ S2 : lSt, Rel S2.1 S2.2.1 → jn S2 = some 1) : f_L_case20 N L xs i S jn = some 1 := by
  obtain ⟨k, r, s1, b, t1, h9, h10, hP, ht, hb, h⟩ := A _ _ (xs (i + 1).toNatClampNeg) hR
  unfold f_L_case20
  simp only [gJoin0, if_neg g1]
  rw [h9, Option.bind_some, h10, if_neg (fun e => e hP), Option.bind_some]
  have ht2 : f_X10_thrown t1 = f_L_courseCost k := ht
  rw [if_pos ht2]
  by_cases hk : f_L_courseCost k = 0
  · rw [if_pos hk]
    have k0 : k = 0 := by
      rcases hP with h | h <;> first | rfl | (subst h; revert hk; decide)
    subst k0
    have hb : b = r := hb rfl
    subst hb
    have ho : o_L_courseCost 0 b S.2.2 0 = b.toInt64 := ul0 S.2.2 _
    rw [ho, lgc, if_pos rfl]
    exact hj (s1, t1, o_L_courseCost 0 b S.2.2) h
  · rw [if_neg hk]
    exact hj (s1, t1, o_L_courseCost k r S.2.2) h
theorem k_case21 (hR : Rel S.1 S.2.1) (A : Owe_spread N) (hj : ∀ S2 : lSt, Rel S2.1 S2.2.1 → jn S2 = some 1) : f_L_case21 N L xs i S jn = some 1 := by
  obtain ⟨b, s1, t1, h9, h10, h⟩ := A _ _ hR
  unfold f_L_case21
  rw [h9, Option.bind_some, h10, Option.bind_some, if_pos rfl]
  exact hj (s1, t1, S.2.2) h
theorem k_case22 (hR : Rel S.1 S.2.1) (A : Owe_runners) (hj : ∀ S2 : lSt, Rel S2.1 S2.2.1 → jn S2 = some 1) : f_L_case22 N L xs i S jn = some 1 := by
  obtain ⟨h1, h⟩ := A _ _ hR
  unfold f_L_case22
  rw [if_pos h1]
  exact hj (S.1, (f_X10_runners S.2.1).2, S.2.2) h
theorem k_case23 (g1 : ¬ (i + 1 < 0 ∨ L ≤ (i + 1).toNatClampNeg)) (hR : Rel S.1 S.2.1) (A : Owe_startOf N) (hj : ∀ S2 : lSt, Rel S2.1 S2.2.1 → jn S2 = some 1) : f_L_case23 N L xs i S jn = some 1 := by
  obtain ⟨k, r, s1, b, t1, h9, h10, hP, ht, hb, h⟩ := A _ _ (xs (i + 1).toNatClampNeg) hR
  unfold f_L_case23
  simp only [gJoin0, if_neg g1]
  rw [h9, Option.bind_some, h10, if_neg (fun e => e hP), Option.bind_some]
  have ht2 : f_X10_thrown t1 = f_L_startOf k := ht
  rw [if_pos ht2]
  by_cases hk : f_L_startOf k = 0
  · rw [if_pos hk]
    have k0 : k = 0 := by
      rcases hP with h | h <;> first | rfl | (subst h; revert hk; decide)
    subst k0
    have hb : b = r := hb rfl
    subst hb
    have ho : o_L_startOf 0 b S.2.2 0 = b.toInt64 := ul0 S.2.2 _
    rw [ho, lgc, if_pos rfl]
    exact hj (s1, t1, o_L_startOf 0 b S.2.2) h
  · rw [if_neg hk]
    exact hj (s1, t1, o_L_startOf k r S.2.2) h
theorem k_case24 (g1 : ¬ (i + 1 < 0 ∨ L ≤ (i + 1).toNatClampNeg)) (hR : Rel S.1 S.2.1) (A : Owe_stateOf N) (hj : ∀ S2 : lSt, Rel S2.1 S2.2.1 → jn S2 = some 1) : f_L_case24 N L xs i S jn = some 1 := by
  obtain ⟨k, r, s1, b, t1, h9, h10, hP, ht, hb, h⟩ := A _ _ (xs (i + 1).toNatClampNeg) hR
  unfold f_L_case24
  simp only [gJoin0, if_neg g1]
  rw [h9, Option.bind_some, h10, if_neg (fun e => e hP), Option.bind_some]
  have ht2 : f_X10_thrown t1 = f_L_stateOf k := ht
  rw [if_pos ht2]
  by_cases hk : f_L_stateOf k = 0
  · rw [if_pos hk]
    have k0 : k = 0 := by
      rcases hP with h | h <;> first | rfl | (subst h; revert hk; decide)
    subst k0
    have hb : b = r := hb rfl
    subst hb
    have ho : o_L_stateOf 0 b S.2.2 0 = b.toInt64 := ul0 S.2.2 _
    rw [ho, lgc, if_pos rfl]
    exact hj (s1, t1, o_L_stateOf 0 b S.2.2) h
  · rw [if_neg hk]
    exact hj (s1, t1, o_L_stateOf k r S.2.2) h
theorem k_case25 (g1 : ¬ (i + 1 < 0 ∨ L ≤ (i + 1).toNatClampNeg)) (g2 : ¬ (i + 2 < 0 ∨ L ≤ (i + 2).toNatClampNeg)) (hR : Rel S.1 S.2.1) (A : Owe_split N) (hj : ∀ S2 : lSt, Rel S2.1 S2.2.1 → jn S2 = some 1) : f_L_case25 N L xs i S jn = some 1 := by
  obtain ⟨k, r, s1, b, t1, h9, h10, hP, ht, hb, h⟩ := A _ _ (xs (i + 1).toNatClampNeg) (xs (i + 2).toNatClampNeg) hR
  unfold f_L_case25
  simp only [gJoin0, if_neg g1, if_neg g2]
  rw [h9, Option.bind_some, h10, if_neg (fun e => e hP), Option.bind_some]
  have ht2 : f_X10_thrown t1 = f_L_split k := ht
  rw [if_pos ht2]
  by_cases hk : f_L_split k = 0
  · rw [if_pos hk]
    have k0 : k = 0 := by
      rcases hP with h | h <;> first | rfl | (subst h; revert hk; decide)
    subst k0
    have hb : b = r := hb rfl
    subst hb
    have ho : o_L_split 0 b S.2.2 0 = b.toInt64 := ul0 S.2.2 _
    rw [ho, lgc, if_pos rfl]
    exact hj (s1, t1, o_L_split 0 b S.2.2) h
  · rw [if_neg hk]
    exact hj (s1, t1, o_L_split k r S.2.2) h
theorem k_case26 (g1 : ¬ (i + 1 < 0 ∨ L ≤ (i + 1).toNatClampNeg)) (hR : Rel S.1 S.2.1) (A : Owe_total N) (hj : ∀ S2 : lSt, Rel S2.1 S2.2.1 → jn S2 = some 1) : f_L_case26 N L xs i S jn = some 1 := by
  obtain ⟨k, r, s1, b, t1, h9, h10, hP, ht, hb, h⟩ := A _ _ (xs (i + 1).toNatClampNeg) hR
  unfold f_L_case26
  simp only [gJoin0, if_neg g1]
  rw [h9, Option.bind_some, h10, if_neg (fun e => e hP), Option.bind_some]
  have ht2 : f_X10_thrown t1 = f_L_total k := ht
  rw [if_pos ht2]
  by_cases hk : f_L_total k = 0
  · rw [if_pos hk]
    have k0 : k = 0 := by
      rcases hP with h | h <;> first | rfl | (subst h; revert hk; decide)
    subst k0
    have hb : b = r := hb rfl
    subst hb
    have ho : o_L_total 0 b S.2.2 0 = b.toInt64 := ul0 S.2.2 _
    rw [ho, lgc, if_pos rfl]
    exact hj (s1, t1, o_L_total 0 b S.2.2) h
  · rw [if_neg hk]
    exact hj (s1, t1, o_L_total k r S.2.2) h
theorem k_case27 (g1 : ¬ (i + 1 < 0 ∨ L ≤ (i + 1).toNatClampNeg)) (hR : Rel S.1 S.2.1) (A : Owe_rank N) (hj : ∀ S2 : lSt, Rel S2.1 S2.2.1 → jn S2 = some 1) : f_L_case27 N L xs i S jn = some 1 := by
  obtain ⟨k, r, s1, b, t1, h9, h10, hP, ht, hb, h⟩ := A _ _ (xs (i + 1).toNatClampNeg) hR
  unfold f_L_case27
  simp only [gJoin0, if_neg g1]
  rw [h9, Option.bind_some, h10, if_neg (fun e => e hP), Option.bind_some]
  have ht2 : f_X10_thrown t1 = f_L_rank k := ht
  rw [if_pos ht2]
  by_cases hk : f_L_rank k = 0
  · rw [if_pos hk]
    have k0 : k = 0 := by
      rcases hP with h | h <;> first | rfl | (subst h; revert hk; decide)
    subst k0
    have hb : b = r := hb rfl
    subst hb
    have ho : o_L_rank 0 b S.2.2 0 = b.toInt64 := ul0 S.2.2 _
    rw [ho, lgc, if_pos rfl]
    exact hj (s1, t1, o_L_rank 0 b S.2.2) h
  · rw [if_neg hk]
    exact hj (s1, t1, o_L_rank k r S.2.2) h
theorem k_case28 (g1 : ¬ (i + 1 < 0 ∨ L ≤ (i + 1).toNatClampNeg)) (g2 : ¬ (i + 2 < 0 ∨ L ≤ (i + 2).toNatClampNeg)) (hR : Rel S.1 S.2.1) (A : Owe_lost N) (hj : ∀ S2 : lSt, Rel S2.1 S2.2.1 → jn S2 = some 1) : f_L_case28 N L xs i S jn = some 1 := by
  obtain ⟨k, r, s1, b, t1, h9, h10, hP, ht, hb, h⟩ := A _ _ (xs (i + 1).toNatClampNeg) (xs (i + 2).toNatClampNeg) hR
  unfold f_L_case28
  simp only [gJoin0, if_neg g1, if_neg g2]
  rw [h9, Option.bind_some, h10, if_neg (fun e => e hP), Option.bind_some]
  have ht2 : f_X10_thrown t1 = f_L_lost k := ht
  rw [if_pos ht2]
  by_cases hk : f_L_lost k = 0
  · rw [if_pos hk]
    have k0 : k = 0 := by
      rcases hP with h | h <;> first | rfl | (subst h; revert hk; decide)
    subst k0
    have hb : b = r := hb rfl
    subst hb
    have ho : o_L_lost 0 b S.2.2 0 = b.toInt64 := ul0 S.2.2 _
    rw [ho, lgc, if_pos rfl]
    exact hj (s1, t1, o_L_lost 0 b S.2.2) h
  · rw [if_neg hk]
    exact hj (s1, t1, o_L_lost k r S.2.2) h
end Cases
def Owe_all (N : Nat) : Prop := Owe_runners ∧ Owe_spread N ∧ Owe_setHeight N ∧ Owe_hill N ∧ Owe_setGround N ∧ Owe_control N ∧ Owe_visit N ∧ Owe_arrange N ∧ Owe_enter N ∧ Owe_draw N ∧ Owe_punch N ∧ Owe_fail N ∧ Owe_cell N ∧ Owe_lines N ∧ Owe_rings N ∧ Owe_longest N ∧ Owe_cost N ∧ Owe_costByCells N ∧ Owe_climb N ∧ Owe_tempts N ∧ Owe_courseAt N ∧ Owe_courseClimb N ∧ Owe_courseCost N ∧ Owe_startOf N ∧ Owe_stateOf N ∧ Owe_split N ∧ Owe_total N ∧ Owe_rank N ∧ Owe_lost N
theorem ite_some {c : Prop} {dc : Decidable c} {a b : Option Int32} (h1 : c → a = some 1) (h2 : ¬ c → b = some 1) : (@ite _ c dc a b) = some 1 := by
  by_cases h : c
  · rw [if_pos h]; exact h1 h
  · rw [if_neg h]; exact h2 h
theorem guard_i {L t : Nat} (hL : L ≤ 3074) (h : 6 * t + 8 ≤ L) {d : Nat} (hd : d < 6) : ¬ (Int32.ofNat (6 * t + 2) + Int32.ofNat d < 0 ∨ L ≤ (Int32.ofNat (6 * t + 2) + Int32.ofNat d).toNatClampNeg) := by
  have e : (Int32.ofNat (6 * t + 2) + Int32.ofNat d).toInt = (6 * t + 2 + d : Nat) := by
    rw [tadd (by rw [tnat (by omega), tnat (by omega)]; omega), tnat (by omega), tnat (by omega)]
    omega
  rw [tlt, tl0, tcl, e]
  omega
theorem k_disp {N L t : Nat} {xs : Nat → Int32} {S : lSt} {jn : lSt → Option Int32} (hL : L ≤ 3074) (h : 6 * t + 8 ≤ L) (hR : Rel S.1 S.2.1) (A : Owe_all N) (hj : ∀ S2 : lSt, Rel S2.1 S2.2.1 → jn S2 = some 1) : f_L_disp N L xs (Int32.ofNat (6 * t + 2)) S jn = some 1 := by
  have g1 := guard_i hL h (d := 1) (by decide)
  have g2 := guard_i hL h (d := 2) (by decide)
  have g3 := guard_i hL h (d := 3) (by decide)
  have g4 := guard_i hL h (d := 4) (by decide)
  have g5 := guard_i hL h (d := 5) (by decide)
  obtain ⟨A22, A21, A0, A1, A2, A3, A4, A5, A6, A7, A8, A9, A10, A11, A12, A13, A14, A15, A16, A17, A18, A19, A20, A23, A24, A25, A26, A27, A28⟩ := A
  unfold f_L_disp
  refine ite_some (fun _ => k_case0 g1 g2 g3 hR A0 hj) (fun _ => ?_)
  refine ite_some (fun _ => k_case1 g1 g2 g3 g4 hR A1 hj) (fun _ => ?_)
  refine ite_some (fun _ => k_case2 g1 g2 g3 g4 g5 hR A2 hj) (fun _ => ?_)
  refine ite_some (fun _ => k_case3 g1 g2 hR A3 hj) (fun _ => ?_)
  refine ite_some (fun _ => k_case4 g1 g2 hR A4 hj) (fun _ => ?_)
  refine ite_some (fun _ => k_case5 g1 g2 hR A5 hj) (fun _ => ?_)
  refine ite_some (fun _ => k_case6 g1 g2 hR A6 hj) (fun _ => ?_)
  refine ite_some (fun _ => k_case7 g1 g2 hR A7 hj) (fun _ => ?_)
  refine ite_some (fun _ => k_case8 g1 g2 g3 hR A8 hj) (fun _ => ?_)
  refine ite_some (fun _ => k_case9 g1 g2 hR A9 hj) (fun _ => ?_)
  refine ite_some (fun _ => k_case10 g1 g2 hR A10 hj) (fun _ => ?_)
  refine ite_some (fun _ => k_case11 g1 hR A11 hj) (fun _ => ?_)
  refine ite_some (fun _ => k_case12 g1 hR A12 hj) (fun _ => ?_)
  refine ite_some (fun _ => k_case13 g1 hR A13 hj) (fun _ => ?_)
  refine ite_some (fun _ => k_case14 g1 g2 hR A14 hj) (fun _ => ?_)
  refine ite_some (fun _ => k_case15 g1 g2 hR A15 hj) (fun _ => ?_)
  refine ite_some (fun _ => k_case16 g1 g2 hR A16 hj) (fun _ => ?_)
  refine ite_some (fun _ => k_case17 g1 g2 hR A17 hj) (fun _ => ?_)
  refine ite_some (fun _ => k_case18 g1 g2 hR A18 hj) (fun _ => ?_)
  refine ite_some (fun _ => k_case19 g1 hR A19 hj) (fun _ => ?_)
  refine ite_some (fun _ => k_case20 g1 hR A20 hj) (fun _ => ?_)
  refine ite_some (fun _ => k_case21  hR A21 hj) (fun _ => ?_)
  refine ite_some (fun _ => k_case22  hR A22 hj) (fun _ => ?_)
  refine ite_some (fun _ => k_case23 g1 hR A23 hj) (fun _ => ?_)
  refine ite_some (fun _ => k_case24 g1 hR A24 hj) (fun _ => ?_)
  refine ite_some (fun _ => k_case25 g1 g2 hR A25 hj) (fun _ => ?_)
  refine ite_some (fun _ => k_case26 g1 hR A26 hj) (fun _ => ?_)
  refine ite_some (fun _ => k_case27 g1 hR A27 hj) (fun _ => ?_)
  refine ite_some (fun _ => k_case28 g1 g2 hR A28 hj) (fun _ => ?_)
  exact hj S hR
theorem k_loop {N L : Nat} {xs : Nat → Int32} (hL : L ≤ 3074) (A : Owe_all N) : ∀ (n t : Nat) (S : lSt), 6 * t ≤ L + 4 → L + 8 ≤ 6 * (n + t) → Rel S.1 S.2.1 → f_L_loop N L xs n (Int32.ofNat (6 * t + 2)) S = some 1 := by
  intro n
  induction n with
  | zero => intro t S h1 h2; omega
  | succ n ih =>
    intro t S h1 h2 hR
    unfold f_L_loop
    have e6 : (Int32.ofNat L - 6).toInt = (L : Int) - 6 := by
      rw [tsub (by rw [tnat (by omega), tl6]; omega), tnat (by omega), tl6]
    refine ite_some (fun _ => rfl) (fun hc => ?_)
    rw [tlt, e6, tnat (by omega)] at hc
    refine ite_some (fun hg => ?_) (fun _ => ?_)
    · rw [tlt, tl0, tcl, tnat (by omega)] at hg
      omega
    · refine k_disp hL (by omega) hR A (fun S2 h2 => ?_)
      have ei : Int32.ofNat (6 * t + 2) + 6 = Int32.ofNat (6 * (t + 1) + 2) := by
        rw [teq, tadd (by rw [tnat (by omega), tl6]; omega), tnat (by omega), tnat (by omega), tl6]
        omega
      rw [ei]
      exact ih (t + 1) S2 (by omega) (by omega) h2
theorem side_eq (x : Int32) : f_X9_sideWithinLimits x = mside x := by
  have hr := tR x
  rw [teq]
  unfold f_X9_sideWithinLimits mside
  rw [tmax, tmin, tl2, tl12]
  split
  · rename_i h
    rw [tle, tl2] at h
    split
    · rename_i h2
      rw [tle, tl12] at h2
      omega
    · rename_i h2
      rw [tle, tl12] at h2
      rw [tl12]
      omega
  · rename_i h
    rw [tle, tl2] at h
    rw [tl2]
    omega
theorem side_in (x : Int32) : 2 ≤ (mside x).toInt ∧ (mside x).toInt ≤ 12 := by
  unfold mside
  split
  · rename_i h
    rw [tle, tl2] at h
    split
    · rename_i h2
      rw [tle, tl12] at h2
      exact ⟨h, h2⟩
    · rw [tl12]; omega
  · rw [tl2]; omega
theorem s0m_n {u0 u1 : Int32} {k : Nat} (h : k ≠ 8) (j : Nat) : (S0m u0 u1).1 k j = 0 := by
  unfold S0m
  dsimp only
  rw [if_neg h]
theorem s0m_8 {u0 u1 : Int32} {j : Nat} (h : j < 24) : (S0m u0 u1).1 8 j = -1 := by
  unfold S0m gneg
  dsimp only
  rw [if_pos rfl, if_pos h]
theorem s0m_i {u0 u1 : Int32} {k : Nat} (h0 : k ≠ 0) (h1 : k ≠ 1) : (S0m u0 u1).2 k = 0 := by
  unfold S0m
  dsimp only
  rw [if_neg h0, if_neg h1]
theorem s0m_0 {u0 u1 : Int32} : (S0m u0 u1).2 0 = mside u0 := by
  unfold S0m
  dsimp only
  rw [if_pos rfl]
theorem s0m_1 {u0 u1 : Int32} : (S0m u0 u1).2 1 = mside u1 := by
  unfold S0m
  dsimp only
  rw [if_neg (by decide), if_pos rfl]
theorem s0c_0 {u0 u1 : Int32} : (S0c u0 u1).2 0 = f_X9_sideWithinLimits u0 := by
  unfold S0c
  dsimp only
  rw [if_pos rfl]
theorem s0c_1 {u0 u1 : Int32} : (S0c u0 u1).2 1 = f_X9_sideWithinLimits u1 := by
  unfold S0c
  dsimp only
  rw [if_neg (by decide), if_pos rfl]
theorem s0c_i {u0 u1 : Int32} {k : Nat} (h0 : k ≠ 0) (h1 : k ≠ 1) : (S0c u0 u1).2 k = 0 := by
  unfold S0c
  dsimp only
  rw [if_neg h0, if_neg h1]
theorem s0_eq {u0 u1 : Int32} {j k : Nat} (h : k ≠ 8) : (S0c u0 u1).1 j = (S0m u0 u1).1 k := by
  unfold S0m S0c
  dsimp only
  rw [if_neg h]
theorem same_start (u0 u1 : Int32) : Same (S0c u0 u1) (S0m u0 u1) := by
  refine ⟨⟨s0_eq (by decide), s0_eq (by decide), s0_eq (by decide), s0_eq (by decide), s0_eq (by decide), s0_eq (by decide), s0_eq (by decide), s0_eq (by decide), s0_eq (by decide), s0_eq (by decide), s0_eq (by decide)⟩, fun k h => ?_, ?_, ?_, ?_, ?_, ?_⟩
  · rw [s0m_i (by decide) (by decide), tl0] at h; omega
  · rw [s0c_0, s0m_0]; exact side_eq u0
  · rw [s0c_1, s0m_1]; exact side_eq u1
  · rw [s0c_i (by decide) (by decide), s0m_i (by decide) (by decide)]
  · rw [s0c_i (by decide) (by decide), s0m_i (by decide) (by decide)]
  · rw [s0c_i (by decide) (by decide), s0m_i (by decide) (by decide)]
theorem inv_start (u0 u1 : Int32) : Inv (S0m u0 u1) := by
  refine ⟨?_, ?_, ?_, ?_, ?_, ?_⟩
  · refine ⟨by rw [s0m_0]; exact (side_in u0).1, by rw [s0m_0]; exact (side_in u0).2, by rw [s0m_1]; exact (side_in u1).1, by rw [s0m_1]; exact (side_in u1).2, fun k => ?_, fun k => ?_⟩
    · rw [s0m_n (by decide), tl0]; omega
    · rw [s0m_n (by decide), tl0]; omega
  · have f2 : (S0m u0 u1).2 2 = 0 := s0m_i (by decide) (by decide)
    refine ⟨by rw [f2, tl0]; omega, by rw [f2, tl0]; omega, fun k h => ?_, fun k => ?_⟩
    · rw [f2, tl0] at h; omega
    · exact Or.inl (s0m_n (by decide) k)
  · refine ⟨fun c => ?_, fun c j hc h => ?_, fun c i j hc hi h => ?_⟩
    · rw [s0m_n (by decide), tl0]; omega
    · rw [s0m_n (by decide), tl0] at h; omega
    · rw [s0m_n (by decide), tl0] at h; omega
  · have f3 : (S0m u0 u1).2 3 = 0 := s0m_i (by decide) (by decide)
    refine ⟨by rw [f3, tl0]; omega, by rw [f3, tl0]; omega, fun k h => ?_, fun k h => ?_⟩
    · rw [f3, tl0] at h; omega
    · rw [f3, tl0] at h; omega
  · have f4 : (S0m u0 u1).2 4 = 0 := s0m_i (by decide) (by decide)
    refine ⟨Or.inl f4, fun k _ h => s0m_8 h, fun _ k h => s0m_8 h, fun h => ?_⟩
    rw [f4, teq, tl0, tl1] at h
    omega
  · refine ⟨fun k => ?_, fun _ k => s0m_n (by decide) k, fun i j hi h => ?_, fun i j k hi hj h => ?_⟩
    · rw [s0m_n (by decide), tl0]; omega
    · rw [s0m_n (by decide), tl0] at h; omega
    · rw [s0m_n (by decide), tl0] at h; omega
theorem rel_start (u0 u1 : Int32) : Rel (S0c u0 u1) (S0m u0 u1) := ⟨same_start u0 u1, inv_start u0 u1⟩
theorem pure_of {N L : Nat} {xs : Nat → Int32} (hL : L ≤ 3074) (A : Owe_all N) : ∃ N n, f_L_loop N L xs n 2 (S0L (f_L_cell L xs 0) (f_L_cell L xs 1)) = some 1 :=
  ⟨N, 600, k_loop hL A 600 0 (S0L (f_L_cell L xs 0) (f_L_cell L xs 1)) (by omega) (by omega) (rel_start _ _)⟩
