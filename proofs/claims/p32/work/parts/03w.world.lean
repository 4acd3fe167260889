/-! the class's world: cells 0..8 its objects, 9..36 the Rows, 37..64 their arrays -/
def gLen (r : Nat) : Nat := match r with
  | 0 => 144
  | 1 => 144
  | 2 => 288
  | 3 => 288
  | 4 => 288
  | 5 => 144
  | 6 => 144
  | 7 => 144
  | 8 => 12
  | 9 => 12
  | 10 => 30
  | 11 => 5
  | 12 => 144
  | 13 => 144
  | 14 => 6
  | 15 => 6
  | 16 => 24
  | 17 => 24
  | 18 => 24
  | 19 => 24
  | 20 => 24
  | 21 => 480
  | 22 => 480
  | 23 => 144
  | 24 => 144
  | 25 => 24
  | 26 => 24
  | _ => 24
def gO (a : Nat → Nat) (σ : gSt) (k : Nat) : va_E := match k with
  | 0 => .inr (9, [.ref (a 1), .ref (a 2), .ref (a 3), .ref (a 4), .ref (a 5), .ref (a 6), .ref (a 7), .ref (a 8)])
  | 1 => .inr (8, [.int (σ.2 0), .int (σ.2 1), .ref (a 9), .ref (a 10)])
  | 2 => .inr (0, [.ref (a 1), .ref (a 11), .ref (a 12), .ref (a 13), .int (σ.2 2)])
  | 3 => .inr (6, [.ref (a 1), .ref (a 14), .ref (a 15), .ref (a 16), .int (σ.2 3)])
  | 4 => .inr (1, [.ref (a 17), .ref (a 18), .int (σ.2 4)])
  | 5 => .inr (2, [.ref (a 19), .ref (a 20)])
  | 6 => .inr (4, [.ref (a 3), .ref (a 4), .ref (a 5), .ref (a 21), .ref (a 22), .ref (a 23), .ref (a 24), .int (σ.2 5), .int (σ.2 6), .int (σ.2 7), .int (σ.2 8), .int (σ.2 9)])
  | 7 => .inr (3, [.ref (a 25), .ref (a 26), .ref (a 27), .ref (a 28), .ref (a 29), .ref (a 30), .ref (a 31), .int (σ.2 10), .int (σ.2 11)])
  | _ => .inr (5, [.ref (a 4), .ref (a 5), .ref (a 7), .ref (a 32), .ref (a 33), .ref (a 34), .ref (a 35), .ref (a 36)])
def gE (a : Nat → Nat) (cI : ClassId) (σ : gSt) (k : Nat) : va_E := if k < 9 then gO a σ k else if k < 37 then .inr (7, [.ref (a (k + 28))]) else .inl (cI, gLen (k - 37), .inl (σ.1 (k - 37)))
theorem gE_0 {a : Nat → Nat} {cI : ClassId} {σ : gSt} : gE a cI σ 0 = .inr (9, [.ref (a 1), .ref (a 2), .ref (a 3), .ref (a 4), .ref (a 5), .ref (a 6), .ref (a 7), .ref (a 8)]) := rfl
theorem gE_1 {a : Nat → Nat} {cI : ClassId} {σ : gSt} : gE a cI σ 1 = .inr (8, [.int (σ.2 0), .int (σ.2 1), .ref (a 9), .ref (a 10)]) := rfl
theorem gE_2 {a : Nat → Nat} {cI : ClassId} {σ : gSt} : gE a cI σ 2 = .inr (0, [.ref (a 1), .ref (a 11), .ref (a 12), .ref (a 13), .int (σ.2 2)]) := rfl
theorem gE_3 {a : Nat → Nat} {cI : ClassId} {σ : gSt} : gE a cI σ 3 = .inr (6, [.ref (a 1), .ref (a 14), .ref (a 15), .ref (a 16), .int (σ.2 3)]) := rfl
theorem gE_4 {a : Nat → Nat} {cI : ClassId} {σ : gSt} : gE a cI σ 4 = .inr (1, [.ref (a 17), .ref (a 18), .int (σ.2 4)]) := rfl
theorem gE_5 {a : Nat → Nat} {cI : ClassId} {σ : gSt} : gE a cI σ 5 = .inr (2, [.ref (a 19), .ref (a 20)]) := rfl
theorem gE_6 {a : Nat → Nat} {cI : ClassId} {σ : gSt} : gE a cI σ 6 = .inr (4, [.ref (a 3), .ref (a 4), .ref (a 5), .ref (a 21), .ref (a 22), .ref (a 23), .ref (a 24), .int (σ.2 5), .int (σ.2 6), .int (σ.2 7), .int (σ.2 8), .int (σ.2 9)]) := rfl
theorem gE_7 {a : Nat → Nat} {cI : ClassId} {σ : gSt} : gE a cI σ 7 = .inr (3, [.ref (a 25), .ref (a 26), .ref (a 27), .ref (a 28), .ref (a 29), .ref (a 30), .ref (a 31), .int (σ.2 10), .int (σ.2 11)]) := rfl
theorem gE_8 {a : Nat → Nat} {cI : ClassId} {σ : gSt} : gE a cI σ 8 = .inr (5, [.ref (a 4), .ref (a 5), .ref (a 7), .ref (a 32), .ref (a 33), .ref (a 34), .ref (a 35), .ref (a 36)]) := rfl
theorem gE_row {a : Nat → Nat} {cI : ClassId} {σ : gSt} {r : Nat} (hr : r < 28) : gE a cI σ (9 + r) = .inr (7, [.ref (a (37 + r))]) := by
  unfold gE
  rw [if_neg (by omega), if_pos (by omega), show 9 + r + 28 = 37 + r by omega]
theorem gE_arr {a : Nat → Nat} {cI : ClassId} {σ : gSt} {r : Nat} : gE a cI σ (37 + r) = .inl (cI, gLen r, .inl (σ.1 r)) := by
  unfold gE
  rw [if_neg (by omega), if_neg (by omega), show 37 + r - 37 = r by omega]
theorem gE_sa {a : Nat → Nat} {cI : ClassId} {σ : gSt} {r : Nat} {f : Nat → Int32} (j : Nat) (hj : j < 65) (hne : j ≠ 37 + r) : gE a cI (g_sa σ r f) j = gE a cI σ j := by
  unfold gE
  by_cases h1 : j < 9
  · rw [if_pos h1, if_pos h1]
    rcases (show j = 0 ∨ j = 1 ∨ j = 2 ∨ j = 3 ∨ j = 4 ∨ j = 5 ∨ j = 6 ∨ j = 7 ∨ j = 8 by omega) with rfl | rfl | rfl | rfl | rfl | rfl | rfl | rfl | rfl <;> rfl
  · rw [if_neg h1, if_neg h1]
    by_cases h2 : j < 37
    · rw [if_pos h2, if_pos h2]
    · rw [if_neg h2, if_neg h2, show (g_sa σ r f).1 (j - 37) = σ.1 (j - 37) from if_neg (by omega)]
theorem gE_sf9 {a : Nat → Nat} {cI : ClassId} {σ : gSt} {k : Nat} {x : Int32} (j : Nat) (h1 : ¬ j < 9) : gE a cI (g_sf σ k x) j = gE a cI σ j := by
  unfold gE
  rw [if_neg h1, if_neg h1]
  rfl
theorem gE_sf_0 {a : Nat → Nat} {cI : ClassId} {σ : gSt} {x : Int32} (j : Nat) (hj : j < 65) (hne : j ≠ 1) : gE a cI (g_sf σ 0 x) j = gE a cI σ j := by
  by_cases h1 : j < 9
  · rcases (show j = 0 ∨ j = 1 ∨ j = 2 ∨ j = 3 ∨ j = 4 ∨ j = 5 ∨ j = 6 ∨ j = 7 ∨ j = 8 by omega) with rfl | rfl | rfl | rfl | rfl | rfl | rfl | rfl | rfl <;> first | rfl | exact absurd rfl hne
  · exact gE_sf9 j h1
theorem gE_sf_1 {a : Nat → Nat} {cI : ClassId} {σ : gSt} {x : Int32} (j : Nat) (hj : j < 65) (hne : j ≠ 1) : gE a cI (g_sf σ 1 x) j = gE a cI σ j := by
  by_cases h1 : j < 9
  · rcases (show j = 0 ∨ j = 1 ∨ j = 2 ∨ j = 3 ∨ j = 4 ∨ j = 5 ∨ j = 6 ∨ j = 7 ∨ j = 8 by omega) with rfl | rfl | rfl | rfl | rfl | rfl | rfl | rfl | rfl <;> first | rfl | exact absurd rfl hne
  · exact gE_sf9 j h1
theorem gE_sf_2 {a : Nat → Nat} {cI : ClassId} {σ : gSt} {x : Int32} (j : Nat) (hj : j < 65) (hne : j ≠ 2) : gE a cI (g_sf σ 2 x) j = gE a cI σ j := by
  by_cases h1 : j < 9
  · rcases (show j = 0 ∨ j = 1 ∨ j = 2 ∨ j = 3 ∨ j = 4 ∨ j = 5 ∨ j = 6 ∨ j = 7 ∨ j = 8 by omega) with rfl | rfl | rfl | rfl | rfl | rfl | rfl | rfl | rfl <;> first | rfl | exact absurd rfl hne
  · exact gE_sf9 j h1
theorem gE_sf_3 {a : Nat → Nat} {cI : ClassId} {σ : gSt} {x : Int32} (j : Nat) (hj : j < 65) (hne : j ≠ 3) : gE a cI (g_sf σ 3 x) j = gE a cI σ j := by
  by_cases h1 : j < 9
  · rcases (show j = 0 ∨ j = 1 ∨ j = 2 ∨ j = 3 ∨ j = 4 ∨ j = 5 ∨ j = 6 ∨ j = 7 ∨ j = 8 by omega) with rfl | rfl | rfl | rfl | rfl | rfl | rfl | rfl | rfl <;> first | rfl | exact absurd rfl hne
  · exact gE_sf9 j h1
theorem gE_sf_4 {a : Nat → Nat} {cI : ClassId} {σ : gSt} {x : Int32} (j : Nat) (hj : j < 65) (hne : j ≠ 4) : gE a cI (g_sf σ 4 x) j = gE a cI σ j := by
  by_cases h1 : j < 9
  · rcases (show j = 0 ∨ j = 1 ∨ j = 2 ∨ j = 3 ∨ j = 4 ∨ j = 5 ∨ j = 6 ∨ j = 7 ∨ j = 8 by omega) with rfl | rfl | rfl | rfl | rfl | rfl | rfl | rfl | rfl <;> first | rfl | exact absurd rfl hne
  · exact gE_sf9 j h1
theorem gE_sf_5 {a : Nat → Nat} {cI : ClassId} {σ : gSt} {x : Int32} (j : Nat) (hj : j < 65) (hne : j ≠ 6) : gE a cI (g_sf σ 5 x) j = gE a cI σ j := by
  by_cases h1 : j < 9
  · rcases (show j = 0 ∨ j = 1 ∨ j = 2 ∨ j = 3 ∨ j = 4 ∨ j = 5 ∨ j = 6 ∨ j = 7 ∨ j = 8 by omega) with rfl | rfl | rfl | rfl | rfl | rfl | rfl | rfl | rfl <;> first | rfl | exact absurd rfl hne
  · exact gE_sf9 j h1
theorem gE_sf_6 {a : Nat → Nat} {cI : ClassId} {σ : gSt} {x : Int32} (j : Nat) (hj : j < 65) (hne : j ≠ 6) : gE a cI (g_sf σ 6 x) j = gE a cI σ j := by
  by_cases h1 : j < 9
  · rcases (show j = 0 ∨ j = 1 ∨ j = 2 ∨ j = 3 ∨ j = 4 ∨ j = 5 ∨ j = 6 ∨ j = 7 ∨ j = 8 by omega) with rfl | rfl | rfl | rfl | rfl | rfl | rfl | rfl | rfl <;> first | rfl | exact absurd rfl hne
  · exact gE_sf9 j h1
theorem gE_sf_7 {a : Nat → Nat} {cI : ClassId} {σ : gSt} {x : Int32} (j : Nat) (hj : j < 65) (hne : j ≠ 6) : gE a cI (g_sf σ 7 x) j = gE a cI σ j := by
  by_cases h1 : j < 9
  · rcases (show j = 0 ∨ j = 1 ∨ j = 2 ∨ j = 3 ∨ j = 4 ∨ j = 5 ∨ j = 6 ∨ j = 7 ∨ j = 8 by omega) with rfl | rfl | rfl | rfl | rfl | rfl | rfl | rfl | rfl <;> first | rfl | exact absurd rfl hne
  · exact gE_sf9 j h1
theorem gE_sf_8 {a : Nat → Nat} {cI : ClassId} {σ : gSt} {x : Int32} (j : Nat) (hj : j < 65) (hne : j ≠ 6) : gE a cI (g_sf σ 8 x) j = gE a cI σ j := by
  by_cases h1 : j < 9
  · rcases (show j = 0 ∨ j = 1 ∨ j = 2 ∨ j = 3 ∨ j = 4 ∨ j = 5 ∨ j = 6 ∨ j = 7 ∨ j = 8 by omega) with rfl | rfl | rfl | rfl | rfl | rfl | rfl | rfl | rfl <;> first | rfl | exact absurd rfl hne
  · exact gE_sf9 j h1
theorem gE_sf_9 {a : Nat → Nat} {cI : ClassId} {σ : gSt} {x : Int32} (j : Nat) (hj : j < 65) (hne : j ≠ 6) : gE a cI (g_sf σ 9 x) j = gE a cI σ j := by
  by_cases h1 : j < 9
  · rcases (show j = 0 ∨ j = 1 ∨ j = 2 ∨ j = 3 ∨ j = 4 ∨ j = 5 ∨ j = 6 ∨ j = 7 ∨ j = 8 by omega) with rfl | rfl | rfl | rfl | rfl | rfl | rfl | rfl | rfl <;> first | rfl | exact absurd rfl hne
  · exact gE_sf9 j h1
theorem gE_sf_10 {a : Nat → Nat} {cI : ClassId} {σ : gSt} {x : Int32} (j : Nat) (hj : j < 65) (hne : j ≠ 7) : gE a cI (g_sf σ 10 x) j = gE a cI σ j := by
  by_cases h1 : j < 9
  · rcases (show j = 0 ∨ j = 1 ∨ j = 2 ∨ j = 3 ∨ j = 4 ∨ j = 5 ∨ j = 6 ∨ j = 7 ∨ j = 8 by omega) with rfl | rfl | rfl | rfl | rfl | rfl | rfl | rfl | rfl <;> first | rfl | exact absurd rfl hne
  · exact gE_sf9 j h1
theorem gE_sf_11 {a : Nat → Nat} {cI : ClassId} {σ : gSt} {x : Int32} (j : Nat) (hj : j < 65) (hne : j ≠ 7) : gE a cI (g_sf σ 11 x) j = gE a cI σ j := by
  by_cases h1 : j < 9
  · rcases (show j = 0 ∨ j = 1 ∨ j = 2 ∨ j = 3 ∨ j = 4 ∨ j = 5 ∨ j = 6 ∨ j = 7 ∨ j = 8 by omega) with rfl | rfl | rfl | rfl | rfl | rfl | rfl | rfl | rfl <;> first | rfl | exact absurd rfl hne
  · exact gE_sf9 j h1
def gJoin0 {T : Type} (k : T) (t : (T) → T) : T := t k
theorem gJoin0_in {T : Type} {k : T} {t : (T) → T} {r : T} (h : gJoin0 k t = r) : ∃ j : T, (j = k) ∧ t j = r := ⟨k, rfl, h⟩
def gJoin1 {A0 T : Type} (k : A0 → T) (t : (A0 → T) → T) : T := t k
theorem gJoin1_in {A0 T : Type} {k : A0 → T} {t : (A0 → T) → T} {r : T} (h : gJoin1 k t = r) : ∃ j : A0 → T, (∀ x0, j x0 = k x0) ∧ t j = r := ⟨k, fun _ => rfl, h⟩
def gLoop1 {A0 T : Type} (b : (A0 → Option T) → A0 → Option T) : Nat → A0 → Option T
  | 0, _ => none
  | n + 1, x0 => b (gLoop1 b n) x0
theorem gLoop1_in {A0 T : Type} {b : (A0 → Option T) → A0 → Option T} {n : Nat} {x0 : A0} {r : Option T} (h : gLoop1 b n x0 = r) : ∃ lp : Nat → A0 → Option T, (∀ x0, lp 0 x0 = none) ∧ (∀ n x0, lp (n + 1) x0 = b (lp n) x0) ∧ lp n x0 = r := ⟨gLoop1 b, fun _ => rfl, fun _ _ => rfl, h⟩
def gJoin2 {A0 A1 T : Type} (k : A0 → A1 → T) (t : (A0 → A1 → T) → T) : T := t k
theorem gJoin2_in {A0 A1 T : Type} {k : A0 → A1 → T} {t : (A0 → A1 → T) → T} {r : T} (h : gJoin2 k t = r) : ∃ j : A0 → A1 → T, (∀ x0 x1, j x0 x1 = k x0 x1) ∧ t j = r := ⟨k, fun _ _ => rfl, h⟩
def gLoop2 {A0 A1 T : Type} (b : (A0 → A1 → Option T) → A0 → A1 → Option T) : Nat → A0 → A1 → Option T
  | 0, _, _ => none
  | n + 1, x0, x1 => b (gLoop2 b n) x0 x1
theorem gLoop2_in {A0 A1 T : Type} {b : (A0 → A1 → Option T) → A0 → A1 → Option T} {n : Nat} {x0 : A0} {x1 : A1} {r : Option T} (h : gLoop2 b n x0 x1 = r) : ∃ lp : Nat → A0 → A1 → Option T, (∀ x0 x1, lp 0 x0 x1 = none) ∧ (∀ n x0 x1, lp (n + 1) x0 x1 = b (lp n) x0 x1) ∧ lp n x0 x1 = r := ⟨gLoop2 b, fun _ _ => rfl, fun _ _ _ => rfl, h⟩
def gJoin3 {A0 A1 A2 T : Type} (k : A0 → A1 → A2 → T) (t : (A0 → A1 → A2 → T) → T) : T := t k
theorem gJoin3_in {A0 A1 A2 T : Type} {k : A0 → A1 → A2 → T} {t : (A0 → A1 → A2 → T) → T} {r : T} (h : gJoin3 k t = r) : ∃ j : A0 → A1 → A2 → T, (∀ x0 x1 x2, j x0 x1 x2 = k x0 x1 x2) ∧ t j = r := ⟨k, fun _ _ _ => rfl, h⟩
def gLoop3 {A0 A1 A2 T : Type} (b : (A0 → A1 → A2 → Option T) → A0 → A1 → A2 → Option T) : Nat → A0 → A1 → A2 → Option T
  | 0, _, _, _ => none
  | n + 1, x0, x1, x2 => b (gLoop3 b n) x0 x1 x2
theorem gLoop3_in {A0 A1 A2 T : Type} {b : (A0 → A1 → A2 → Option T) → A0 → A1 → A2 → Option T} {n : Nat} {x0 : A0} {x1 : A1} {x2 : A2} {r : Option T} (h : gLoop3 b n x0 x1 x2 = r) : ∃ lp : Nat → A0 → A1 → A2 → Option T, (∀ x0 x1 x2, lp 0 x0 x1 x2 = none) ∧ (∀ n x0 x1 x2, lp (n + 1) x0 x1 x2 = b (lp n) x0 x1 x2) ∧ lp n x0 x1 x2 = r := ⟨gLoop3 b, fun _ _ _ => rfl, fun _ _ _ _ => rfl, h⟩
def gJoin4 {A0 A1 A2 A3 T : Type} (k : A0 → A1 → A2 → A3 → T) (t : (A0 → A1 → A2 → A3 → T) → T) : T := t k
theorem gJoin4_in {A0 A1 A2 A3 T : Type} {k : A0 → A1 → A2 → A3 → T} {t : (A0 → A1 → A2 → A3 → T) → T} {r : T} (h : gJoin4 k t = r) : ∃ j : A0 → A1 → A2 → A3 → T, (∀ x0 x1 x2 x3, j x0 x1 x2 x3 = k x0 x1 x2 x3) ∧ t j = r := ⟨k, fun _ _ _ _ => rfl, h⟩
def gLoop4 {A0 A1 A2 A3 T : Type} (b : (A0 → A1 → A2 → A3 → Option T) → A0 → A1 → A2 → A3 → Option T) : Nat → A0 → A1 → A2 → A3 → Option T
  | 0, _, _, _, _ => none
  | n + 1, x0, x1, x2, x3 => b (gLoop4 b n) x0 x1 x2 x3
theorem gLoop4_in {A0 A1 A2 A3 T : Type} {b : (A0 → A1 → A2 → A3 → Option T) → A0 → A1 → A2 → A3 → Option T} {n : Nat} {x0 : A0} {x1 : A1} {x2 : A2} {x3 : A3} {r : Option T} (h : gLoop4 b n x0 x1 x2 x3 = r) : ∃ lp : Nat → A0 → A1 → A2 → A3 → Option T, (∀ x0 x1 x2 x3, lp 0 x0 x1 x2 x3 = none) ∧ (∀ n x0 x1 x2 x3, lp (n + 1) x0 x1 x2 x3 = b (lp n) x0 x1 x2 x3) ∧ lp n x0 x1 x2 x3 = r := ⟨gLoop4 b, fun _ _ _ _ => rfl, fun _ _ _ _ _ => rfl, h⟩
def gJoin5 {A0 A1 A2 A3 A4 T : Type} (k : A0 → A1 → A2 → A3 → A4 → T) (t : (A0 → A1 → A2 → A3 → A4 → T) → T) : T := t k
theorem gJoin5_in {A0 A1 A2 A3 A4 T : Type} {k : A0 → A1 → A2 → A3 → A4 → T} {t : (A0 → A1 → A2 → A3 → A4 → T) → T} {r : T} (h : gJoin5 k t = r) : ∃ j : A0 → A1 → A2 → A3 → A4 → T, (∀ x0 x1 x2 x3 x4, j x0 x1 x2 x3 x4 = k x0 x1 x2 x3 x4) ∧ t j = r := ⟨k, fun _ _ _ _ _ => rfl, h⟩
def gLoop5 {A0 A1 A2 A3 A4 T : Type} (b : (A0 → A1 → A2 → A3 → A4 → Option T) → A0 → A1 → A2 → A3 → A4 → Option T) : Nat → A0 → A1 → A2 → A3 → A4 → Option T
  | 0, _, _, _, _, _ => none
  | n + 1, x0, x1, x2, x3, x4 => b (gLoop5 b n) x0 x1 x2 x3 x4
theorem gLoop5_in {A0 A1 A2 A3 A4 T : Type} {b : (A0 → A1 → A2 → A3 → A4 → Option T) → A0 → A1 → A2 → A3 → A4 → Option T} {n : Nat} {x0 : A0} {x1 : A1} {x2 : A2} {x3 : A3} {x4 : A4} {r : Option T} (h : gLoop5 b n x0 x1 x2 x3 x4 = r) : ∃ lp : Nat → A0 → A1 → A2 → A3 → A4 → Option T, (∀ x0 x1 x2 x3 x4, lp 0 x0 x1 x2 x3 x4 = none) ∧ (∀ n x0 x1 x2 x3 x4, lp (n + 1) x0 x1 x2 x3 x4 = b (lp n) x0 x1 x2 x3 x4) ∧ lp n x0 x1 x2 x3 x4 = r := ⟨gLoop5 b, fun _ _ _ _ _ => rfl, fun _ _ _ _ _ _ => rfl, h⟩
def gJoin6 {A0 A1 A2 A3 A4 A5 T : Type} (k : A0 → A1 → A2 → A3 → A4 → A5 → T) (t : (A0 → A1 → A2 → A3 → A4 → A5 → T) → T) : T := t k
theorem gJoin6_in {A0 A1 A2 A3 A4 A5 T : Type} {k : A0 → A1 → A2 → A3 → A4 → A5 → T} {t : (A0 → A1 → A2 → A3 → A4 → A5 → T) → T} {r : T} (h : gJoin6 k t = r) : ∃ j : A0 → A1 → A2 → A3 → A4 → A5 → T, (∀ x0 x1 x2 x3 x4 x5, j x0 x1 x2 x3 x4 x5 = k x0 x1 x2 x3 x4 x5) ∧ t j = r := ⟨k, fun _ _ _ _ _ _ => rfl, h⟩
def gLoop6 {A0 A1 A2 A3 A4 A5 T : Type} (b : (A0 → A1 → A2 → A3 → A4 → A5 → Option T) → A0 → A1 → A2 → A3 → A4 → A5 → Option T) : Nat → A0 → A1 → A2 → A3 → A4 → A5 → Option T
  | 0, _, _, _, _, _, _ => none
  | n + 1, x0, x1, x2, x3, x4, x5 => b (gLoop6 b n) x0 x1 x2 x3 x4 x5
theorem gLoop6_in {A0 A1 A2 A3 A4 A5 T : Type} {b : (A0 → A1 → A2 → A3 → A4 → A5 → Option T) → A0 → A1 → A2 → A3 → A4 → A5 → Option T} {n : Nat} {x0 : A0} {x1 : A1} {x2 : A2} {x3 : A3} {x4 : A4} {x5 : A5} {r : Option T} (h : gLoop6 b n x0 x1 x2 x3 x4 x5 = r) : ∃ lp : Nat → A0 → A1 → A2 → A3 → A4 → A5 → Option T, (∀ x0 x1 x2 x3 x4 x5, lp 0 x0 x1 x2 x3 x4 x5 = none) ∧ (∀ n x0 x1 x2 x3 x4 x5, lp (n + 1) x0 x1 x2 x3 x4 x5 = b (lp n) x0 x1 x2 x3 x4 x5) ∧ lp n x0 x1 x2 x3 x4 x5 = r := ⟨gLoop6 b, fun _ _ _ _ _ _ => rfl, fun _ _ _ _ _ _ _ => rfl, h⟩
def gJoin7 {A0 A1 A2 A3 A4 A5 A6 T : Type} (k : A0 → A1 → A2 → A3 → A4 → A5 → A6 → T) (t : (A0 → A1 → A2 → A3 → A4 → A5 → A6 → T) → T) : T := t k
theorem gJoin7_in {A0 A1 A2 A3 A4 A5 A6 T : Type} {k : A0 → A1 → A2 → A3 → A4 → A5 → A6 → T} {t : (A0 → A1 → A2 → A3 → A4 → A5 → A6 → T) → T} {r : T} (h : gJoin7 k t = r) : ∃ j : A0 → A1 → A2 → A3 → A4 → A5 → A6 → T, (∀ x0 x1 x2 x3 x4 x5 x6, j x0 x1 x2 x3 x4 x5 x6 = k x0 x1 x2 x3 x4 x5 x6) ∧ t j = r := ⟨k, fun _ _ _ _ _ _ _ => rfl, h⟩
def gLoop7 {A0 A1 A2 A3 A4 A5 A6 T : Type} (b : (A0 → A1 → A2 → A3 → A4 → A5 → A6 → Option T) → A0 → A1 → A2 → A3 → A4 → A5 → A6 → Option T) : Nat → A0 → A1 → A2 → A3 → A4 → A5 → A6 → Option T
  | 0, _, _, _, _, _, _, _ => none
  | n + 1, x0, x1, x2, x3, x4, x5, x6 => b (gLoop7 b n) x0 x1 x2 x3 x4 x5 x6
theorem gLoop7_in {A0 A1 A2 A3 A4 A5 A6 T : Type} {b : (A0 → A1 → A2 → A3 → A4 → A5 → A6 → Option T) → A0 → A1 → A2 → A3 → A4 → A5 → A6 → Option T} {n : Nat} {x0 : A0} {x1 : A1} {x2 : A2} {x3 : A3} {x4 : A4} {x5 : A5} {x6 : A6} {r : Option T} (h : gLoop7 b n x0 x1 x2 x3 x4 x5 x6 = r) : ∃ lp : Nat → A0 → A1 → A2 → A3 → A4 → A5 → A6 → Option T, (∀ x0 x1 x2 x3 x4 x5 x6, lp 0 x0 x1 x2 x3 x4 x5 x6 = none) ∧ (∀ n x0 x1 x2 x3 x4 x5 x6, lp (n + 1) x0 x1 x2 x3 x4 x5 x6 = b (lp n) x0 x1 x2 x3 x4 x5 x6) ∧ lp n x0 x1 x2 x3 x4 x5 x6 = r := ⟨gLoop7 b, fun _ _ _ _ _ _ _ => rfl, fun _ _ _ _ _ _ _ _ => rfl, h⟩
def gJoin8 {A0 A1 A2 A3 A4 A5 A6 A7 T : Type} (k : A0 → A1 → A2 → A3 → A4 → A5 → A6 → A7 → T) (t : (A0 → A1 → A2 → A3 → A4 → A5 → A6 → A7 → T) → T) : T := t k
theorem gJoin8_in {A0 A1 A2 A3 A4 A5 A6 A7 T : Type} {k : A0 → A1 → A2 → A3 → A4 → A5 → A6 → A7 → T} {t : (A0 → A1 → A2 → A3 → A4 → A5 → A6 → A7 → T) → T} {r : T} (h : gJoin8 k t = r) : ∃ j : A0 → A1 → A2 → A3 → A4 → A5 → A6 → A7 → T, (∀ x0 x1 x2 x3 x4 x5 x6 x7, j x0 x1 x2 x3 x4 x5 x6 x7 = k x0 x1 x2 x3 x4 x5 x6 x7) ∧ t j = r := ⟨k, fun _ _ _ _ _ _ _ _ => rfl, h⟩
def gLoop8 {A0 A1 A2 A3 A4 A5 A6 A7 T : Type} (b : (A0 → A1 → A2 → A3 → A4 → A5 → A6 → A7 → Option T) → A0 → A1 → A2 → A3 → A4 → A5 → A6 → A7 → Option T) : Nat → A0 → A1 → A2 → A3 → A4 → A5 → A6 → A7 → Option T
  | 0, _, _, _, _, _, _, _, _ => none
  | n + 1, x0, x1, x2, x3, x4, x5, x6, x7 => b (gLoop8 b n) x0 x1 x2 x3 x4 x5 x6 x7
theorem gLoop8_in {A0 A1 A2 A3 A4 A5 A6 A7 T : Type} {b : (A0 → A1 → A2 → A3 → A4 → A5 → A6 → A7 → Option T) → A0 → A1 → A2 → A3 → A4 → A5 → A6 → A7 → Option T} {n : Nat} {x0 : A0} {x1 : A1} {x2 : A2} {x3 : A3} {x4 : A4} {x5 : A5} {x6 : A6} {x7 : A7} {r : Option T} (h : gLoop8 b n x0 x1 x2 x3 x4 x5 x6 x7 = r) : ∃ lp : Nat → A0 → A1 → A2 → A3 → A4 → A5 → A6 → A7 → Option T, (∀ x0 x1 x2 x3 x4 x5 x6 x7, lp 0 x0 x1 x2 x3 x4 x5 x6 x7 = none) ∧ (∀ n x0 x1 x2 x3 x4 x5 x6 x7, lp (n + 1) x0 x1 x2 x3 x4 x5 x6 x7 = b (lp n) x0 x1 x2 x3 x4 x5 x6 x7) ∧ lp n x0 x1 x2 x3 x4 x5 x6 x7 = r := ⟨gLoop8 b, fun _ _ _ _ _ _ _ _ => rfl, fun _ _ _ _ _ _ _ _ _ => rfl, h⟩
def gJoin9 {A0 A1 A2 A3 A4 A5 A6 A7 A8 T : Type} (k : A0 → A1 → A2 → A3 → A4 → A5 → A6 → A7 → A8 → T) (t : (A0 → A1 → A2 → A3 → A4 → A5 → A6 → A7 → A8 → T) → T) : T := t k
theorem gJoin9_in {A0 A1 A2 A3 A4 A5 A6 A7 A8 T : Type} {k : A0 → A1 → A2 → A3 → A4 → A5 → A6 → A7 → A8 → T} {t : (A0 → A1 → A2 → A3 → A4 → A5 → A6 → A7 → A8 → T) → T} {r : T} (h : gJoin9 k t = r) : ∃ j : A0 → A1 → A2 → A3 → A4 → A5 → A6 → A7 → A8 → T, (∀ x0 x1 x2 x3 x4 x5 x6 x7 x8, j x0 x1 x2 x3 x4 x5 x6 x7 x8 = k x0 x1 x2 x3 x4 x5 x6 x7 x8) ∧ t j = r := ⟨k, fun _ _ _ _ _ _ _ _ _ => rfl, h⟩
def gLoop9 {A0 A1 A2 A3 A4 A5 A6 A7 A8 T : Type} (b : (A0 → A1 → A2 → A3 → A4 → A5 → A6 → A7 → A8 → Option T) → A0 → A1 → A2 → A3 → A4 → A5 → A6 → A7 → A8 → Option T) : Nat → A0 → A1 → A2 → A3 → A4 → A5 → A6 → A7 → A8 → Option T
  | 0, _, _, _, _, _, _, _, _, _ => none
  | n + 1, x0, x1, x2, x3, x4, x5, x6, x7, x8 => b (gLoop9 b n) x0 x1 x2 x3 x4 x5 x6 x7 x8
theorem gLoop9_in {A0 A1 A2 A3 A4 A5 A6 A7 A8 T : Type} {b : (A0 → A1 → A2 → A3 → A4 → A5 → A6 → A7 → A8 → Option T) → A0 → A1 → A2 → A3 → A4 → A5 → A6 → A7 → A8 → Option T} {n : Nat} {x0 : A0} {x1 : A1} {x2 : A2} {x3 : A3} {x4 : A4} {x5 : A5} {x6 : A6} {x7 : A7} {x8 : A8} {r : Option T} (h : gLoop9 b n x0 x1 x2 x3 x4 x5 x6 x7 x8 = r) : ∃ lp : Nat → A0 → A1 → A2 → A3 → A4 → A5 → A6 → A7 → A8 → Option T, (∀ x0 x1 x2 x3 x4 x5 x6 x7 x8, lp 0 x0 x1 x2 x3 x4 x5 x6 x7 x8 = none) ∧ (∀ n x0 x1 x2 x3 x4 x5 x6 x7 x8, lp (n + 1) x0 x1 x2 x3 x4 x5 x6 x7 x8 = b (lp n) x0 x1 x2 x3 x4 x5 x6 x7 x8) ∧ lp n x0 x1 x2 x3 x4 x5 x6 x7 x8 = r := ⟨gLoop9 b, fun _ _ _ _ _ _ _ _ _ => rfl, fun _ _ _ _ _ _ _ _ _ _ => rfl, h⟩
def gJoin10 {A0 A1 A2 A3 A4 A5 A6 A7 A8 A9 T : Type} (k : A0 → A1 → A2 → A3 → A4 → A5 → A6 → A7 → A8 → A9 → T) (t : (A0 → A1 → A2 → A3 → A4 → A5 → A6 → A7 → A8 → A9 → T) → T) : T := t k
theorem gJoin10_in {A0 A1 A2 A3 A4 A5 A6 A7 A8 A9 T : Type} {k : A0 → A1 → A2 → A3 → A4 → A5 → A6 → A7 → A8 → A9 → T} {t : (A0 → A1 → A2 → A3 → A4 → A5 → A6 → A7 → A8 → A9 → T) → T} {r : T} (h : gJoin10 k t = r) : ∃ j : A0 → A1 → A2 → A3 → A4 → A5 → A6 → A7 → A8 → A9 → T, (∀ x0 x1 x2 x3 x4 x5 x6 x7 x8 x9, j x0 x1 x2 x3 x4 x5 x6 x7 x8 x9 = k x0 x1 x2 x3 x4 x5 x6 x7 x8 x9) ∧ t j = r := ⟨k, fun _ _ _ _ _ _ _ _ _ _ => rfl, h⟩
def gLoop10 {A0 A1 A2 A3 A4 A5 A6 A7 A8 A9 T : Type} (b : (A0 → A1 → A2 → A3 → A4 → A5 → A6 → A7 → A8 → A9 → Option T) → A0 → A1 → A2 → A3 → A4 → A5 → A6 → A7 → A8 → A9 → Option T) : Nat → A0 → A1 → A2 → A3 → A4 → A5 → A6 → A7 → A8 → A9 → Option T
  | 0, _, _, _, _, _, _, _, _, _, _ => none
  | n + 1, x0, x1, x2, x3, x4, x5, x6, x7, x8, x9 => b (gLoop10 b n) x0 x1 x2 x3 x4 x5 x6 x7 x8 x9
theorem gLoop10_in {A0 A1 A2 A3 A4 A5 A6 A7 A8 A9 T : Type} {b : (A0 → A1 → A2 → A3 → A4 → A5 → A6 → A7 → A8 → A9 → Option T) → A0 → A1 → A2 → A3 → A4 → A5 → A6 → A7 → A8 → A9 → Option T} {n : Nat} {x0 : A0} {x1 : A1} {x2 : A2} {x3 : A3} {x4 : A4} {x5 : A5} {x6 : A6} {x7 : A7} {x8 : A8} {x9 : A9} {r : Option T} (h : gLoop10 b n x0 x1 x2 x3 x4 x5 x6 x7 x8 x9 = r) : ∃ lp : Nat → A0 → A1 → A2 → A3 → A4 → A5 → A6 → A7 → A8 → A9 → Option T, (∀ x0 x1 x2 x3 x4 x5 x6 x7 x8 x9, lp 0 x0 x1 x2 x3 x4 x5 x6 x7 x8 x9 = none) ∧ (∀ n x0 x1 x2 x3 x4 x5 x6 x7 x8 x9, lp (n + 1) x0 x1 x2 x3 x4 x5 x6 x7 x8 x9 = b (lp n) x0 x1 x2 x3 x4 x5 x6 x7 x8 x9) ∧ lp n x0 x1 x2 x3 x4 x5 x6 x7 x8 x9 = r := ⟨gLoop10 b, fun _ _ _ _ _ _ _ _ _ _ => rfl, fun _ _ _ _ _ _ _ _ _ _ _ => rfl, h⟩
theorem g_guard {T : Type} {P : Prop} {inst : Decidable P} {x : Option T} {r : T} (h : (@ite _ P inst none x) = some r) : ¬ P ∧ x = some r := by
  by_cases c : P
  · rw [if_pos c] at h; cases h
  · rw [if_neg c] at h; exact ⟨c, h⟩
/-! cells read and written by number -/
def g_ga (σ : gSt) (r : Nat) (i : Int32) : Int32 := σ.1 r i.toNatClampNeg
def g_pa (σ : gSt) (r : Nat) (i x : Int32) : gSt := g_sa σ r (upd (σ.1 r) i.toNatClampNeg x)
def jmax (x y : Int32) : Int32 := if x < y then y else x
def jmin (x y : Int32) : Int32 := if y < x then y else x
def jabs (x : Int32) : Int32 := if 0 ≤ x then x else 0 - x
