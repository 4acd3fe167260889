/-! ===== pure: the class's steps on the map ===== -/
def Mc (τ s : gSt) : Prop := s.1 0 = τ.1 0 ∧ s.1 1 = τ.1 1 ∧ s.2 0 = τ.2 0 ∧ s.2 1 = τ.2 1
theorem mc_of {σ τ s : gSt} (hR : Rel σ τ) (h : Kc σ s) : Mc τ s := ⟨(h.1 0 (by unfold ck; decide)).trans hR.1.1.1, (h.1 1 (by unfold ck; decide)).trans hR.1.1.2.1, (h.2 0 (by unfold cf; decide)).trans hR.1.2.2.1, (h.2 1 (by unfold cf; decide)).trans hR.1.2.2.2.1⟩
theorem hasMc_yes {τ s : gSt} {x y : Int32} (hM : Mc τ s) (h : onMap τ x y) : f_X8_has s x y = 1 := by
  obtain ⟨h1, h2⟩ := h
  unfold f_X8_has
  rw [hM.2.2.1, hM.2.2.2, if_neg (c := x < 0) (by rw [tlt, tl0]; omega), if_neg (c := τ.2 0 ≤ x) (by rw [tle]; omega), if_neg (c := y < 0) (by rw [tlt, tl0]; omega), if_neg (c := τ.2 1 ≤ y) (by rw [tle]; omega)]
theorem hasMc_no {τ s : gSt} {x y : Int32} (hM : Mc τ s) (h : ¬ onMap τ x y) : f_X8_has s x y = 0 := by
  unfold f_X8_has
  unfold onMap at h
  rw [hM.2.2.1, hM.2.2.2]
  simp only [tlt, tle, tl0]
  by_cases c1 : x.toInt < 0
  · rw [if_pos c1]
  rw [if_neg c1]
  by_cases c2 : (τ.2 0).toInt ≤ x.toInt
  · rw [if_pos c2]
  rw [if_neg c2]
  by_cases c3 : y.toInt < 0
  · rw [if_pos c3]
  rw [if_neg c3]
  rw [if_pos (show (τ.2 1).toInt ≤ y.toInt by omega)]
/-- which side of k is v -/
def sd (k v i : Nat) : Prop := (i = 0 ∧ v = k + 1) ∨ (i = 1 ∧ k = v + 1) ∨ (i = 2 ∧ v = k + 12) ∨ (i = 3 ∧ k = v + 12)
theorem sd_ex {τ : gSt} {k v : Nat} (h : nb τ k v) : ∃ i, i < 4 ∧ sd k v i := by
  rcases h with ⟨_, e⟩ | ⟨_, e⟩ | ⟨_, e⟩ | ⟨_, e⟩
  · exact ⟨0, by omega, Or.inl ⟨rfl, e⟩⟩
  · exact ⟨1, by omega, Or.inr (Or.inl ⟨rfl, e⟩)⟩
  · exact ⟨2, by omega, Or.inr (Or.inr (Or.inl ⟨rfl, e⟩))⟩
  · exact ⟨3, by omega, Or.inr (Or.inr (Or.inr ⟨rfl, e⟩))⟩
theorem sd_one {k v v' i : Nat} (h : sd k v i) (g : sd k v' i) : v = v' := by
  unfold sd at h g
  omega
theorem beyond_at {τ s : gSt} {x y : Int32} (hT : InvT τ) (hM : Mc τ s) : (onMap τ x y → ((if f_X8_has s x y = 0 then (-1) else f_X8_number x y) : Int32).toInt = 12 * y.toInt + x.toInt) ∧ (¬ onMap τ x y → ((if f_X8_has s x y = 0 then (-1) else f_X8_number x y) : Int32) = -1) := by
  refine ⟨fun h => ?_, fun h => ?_⟩
  · rw [hasMc_yes hM h, if_neg one_ne, num_eq]
    exact (num_in hT h).1
  · rw [hasMc_no hM h, if_pos rfl]
theorem beyond_c {τ s : gSt} {x1 x2 : Int32} {k i : Nat} (hT : InvT τ) (hM : Mc τ s) (h1 : x1.toInt = k) (hk : onK τ k) (h2 : x2.toInt = i) (hi : i < 4) : (f_X8_beyond s x1 x2 = -1 ∧ ∀ v, nb τ k v → ¬ sd k v i) ∨ (∃ v : Nat, (f_X8_beyond s x1 x2).toInt = v ∧ nb τ k v ∧ sd k v i) := by
  obtain ⟨w1, w2, w3, w4, -⟩ := id hT
  have hk144 := onK_lt hT hk
  obtain ⟨k1, k2⟩ := id hk
  have ed := div12 (v := x1) (by omega)
  have em := mod12 (v := x1) (by omega)
  rw [h1] at ed em
  have lit : ∀ n : Nat, (n = 0 → x2 = 0 ∨ i ≠ 0) := fun n e => by
    by_cases q : i = 0
    · exact Or.inl (teq.mpr (by rw [h2, tl0]; omega))
    · exact Or.inr q
  unfold f_X8_beyond
  by_cases c0 : i = 0
  · subst c0
    have e : x2 = 0 := teq.mpr (by rw [h2, tl0]; rfl)
    show ((if x2 = 0 then (if f_X8_has s ((x1 - x1 / 12 * 12) + 1) (x1 / 12) = 0 then (-1) else f_X8_number ((x1 - x1 / 12 * 12) + 1) (x1 / 12)) else _) = -1 ∧ _) ∨ (∃ v : Nat, (if x2 = 0 then (if f_X8_has s ((x1 - x1 / 12 * 12) + 1) (x1 / 12) = 0 then (-1) else f_X8_number ((x1 - x1 / 12 * 12) + 1) (x1 / 12)) else _).toInt = v ∧ _)
    rw [if_pos e]
    have ex : ((x1 - x1 / 12 * 12) + 1).toInt = k % 12 + 1 := by rw [inc1 (n := 12) (by rw [em]; omega) (by omega), em]
    obtain ⟨b1, b2⟩ := beyond_at (s := s) (x := (x1 - x1 / 12 * 12) + 1) (y := x1 / 12) hT hM
    by_cases c : onMap τ ((x1 - x1 / 12 * 12) + 1) (x1 / 12)
    · refine Or.inr ⟨k + 1, ?_, Or.inl ⟨⟨hk, ?_⟩, rfl⟩, Or.inl ⟨rfl, rfl⟩⟩
      · rw [b1 c, ex, ed]
        omega
      · unfold onMap at c
        rw [ex, ed] at c
        omega
    · refine Or.inl ⟨b2 c, fun v hn hs => c ?_⟩
      unfold onMap
      rw [ex, ed]
      have hv : v = k + 1 := by unfold sd at hs; omega
      subst hv
      rcases hn with ⟨h, _⟩ | ⟨_, h⟩ | ⟨_, h⟩ | ⟨_, h⟩
      · have := h.2
        omega
      · omega
      · omega
      · omega
  by_cases c1 : i = 1
  · subst c1
    have e0 : ¬ x2 = 0 := fun e => by rw [e, tl0] at h2; omega
    have e : x2 = 1 := teq.mpr (by rw [h2, tl1]; rfl)
    show ((if x2 = 0 then _ else if x2 = 1 then (if f_X8_has s ((x1 - x1 / 12 * 12) + (-1)) (x1 / 12) = 0 then (-1) else f_X8_number ((x1 - x1 / 12 * 12) + (-1)) (x1 / 12)) else _) = -1 ∧ _) ∨ (∃ v : Nat, (if x2 = 0 then _ else if x2 = 1 then (if f_X8_has s ((x1 - x1 / 12 * 12) + (-1)) (x1 / 12) = 0 then (-1) else f_X8_number ((x1 - x1 / 12 * 12) + (-1)) (x1 / 12)) else _).toInt = v ∧ _)
    rw [if_neg e0, if_pos e]
    have ex : ((x1 - x1 / 12 * 12) + (-1)).toInt = k % 12 - 1 := by rw [tadd (by rw [em, tlm1]; omega), em, tlm1]; omega
    obtain ⟨b1, b2⟩ := beyond_at (s := s) (x := (x1 - x1 / 12 * 12) + (-1)) (y := x1 / 12) hT hM
    by_cases c : onMap τ ((x1 - x1 / 12 * 12) + (-1)) (x1 / 12)
    · have c' := c
      unfold onMap at c'
      rw [ex, ed] at c'
      refine Or.inr ⟨k - 1, ?_, Or.inr (Or.inl ⟨⟨⟨?_, ?_⟩, ?_⟩, by omega⟩), Or.inr (Or.inl ⟨rfl, by omega⟩)⟩
      · rw [b1 c, ex, ed]
        omega
      · have : (k - 1) % 12 = k % 12 - 1 := by omega
        omega
      · have : (k - 1) / 12 = k / 12 := by omega
        omega
      · have : (k - 1) % 12 = k % 12 - 1 := by omega
        omega
    · refine Or.inl ⟨b2 c, fun v hn hs => c ?_⟩
      unfold onMap
      rw [ex, ed]
      have hv : k = v + 1 := by unfold sd at hs; omega
      rcases hn with ⟨_, h⟩ | ⟨h, _⟩ | ⟨_, h⟩ | ⟨_, h⟩
      · omega
      · have h3 := h.2
        have : k % 12 = v % 12 + 1 := by omega
        omega
      · omega
      · omega
  by_cases c2 : i = 2
  · subst c2
    have e0 : ¬ x2 = 0 := fun e => by rw [e, tl0] at h2; omega
    have e1 : ¬ x2 = 1 := fun e => by rw [e, tl1] at h2; omega
    have e : x2 = 2 := teq.mpr (by rw [h2, tl2]; rfl)
    show ((if x2 = 0 then _ else if x2 = 1 then _ else if x2 = 2 then (if f_X8_has s (x1 - x1 / 12 * 12) ((x1 / 12) + 1) = 0 then (-1) else f_X8_number (x1 - x1 / 12 * 12) ((x1 / 12) + 1)) else _) = -1 ∧ _) ∨ (∃ v : Nat, (if x2 = 0 then _ else if x2 = 1 then _ else if x2 = 2 then (if f_X8_has s (x1 - x1 / 12 * 12) ((x1 / 12) + 1) = 0 then (-1) else f_X8_number (x1 - x1 / 12 * 12) ((x1 / 12) + 1)) else _).toInt = v ∧ _)
    rw [if_neg e0, if_neg e1, if_pos e]
    have ex : ((x1 / 12) + 1).toInt = k / 12 + 1 := by rw [inc1 (n := 12) (by rw [ed]; omega) (by omega), ed]
    obtain ⟨b1, b2⟩ := beyond_at (s := s) (x := x1 - x1 / 12 * 12) (y := (x1 / 12) + 1) hT hM
    by_cases c : onMap τ (x1 - x1 / 12 * 12) ((x1 / 12) + 1)
    · have c' := c
      unfold onMap at c'
      rw [ex, em] at c'
      refine Or.inr ⟨k + 12, ?_, Or.inr (Or.inr (Or.inl ⟨⟨hk, by omega⟩, rfl⟩)), Or.inr (Or.inr (Or.inl ⟨rfl, rfl⟩))⟩
      rw [b1 c, ex, em]
      omega
    · refine Or.inl ⟨b2 c, fun v hn hs => c ?_⟩
      unfold onMap
      rw [ex, em]
      have hv : v = k + 12 := by unfold sd at hs; omega
      rcases hn with ⟨_, h⟩ | ⟨_, h⟩ | ⟨h, _⟩ | ⟨_, h⟩
      · omega
      · omega
      · have h3 := h.2
        omega
      · omega
  · have c3 : i = 3 := by omega
    subst c3
    have e0 : ¬ x2 = 0 := fun e => by rw [e, tl0] at h2; omega
    have e1 : ¬ x2 = 1 := fun e => by rw [e, tl1] at h2; omega
    have e2 : ¬ x2 = 2 := fun e => by rw [e, tl2] at h2; omega
    show ((if x2 = 0 then _ else if x2 = 1 then _ else if x2 = 2 then _ else (if f_X8_has s (x1 - x1 / 12 * 12) ((x1 / 12) + (-1)) = 0 then (-1) else f_X8_number (x1 - x1 / 12 * 12) ((x1 / 12) + (-1)))) = -1 ∧ _) ∨ (∃ v : Nat, (if x2 = 0 then _ else if x2 = 1 then _ else if x2 = 2 then _ else (if f_X8_has s (x1 - x1 / 12 * 12) ((x1 / 12) + (-1)) = 0 then (-1) else f_X8_number (x1 - x1 / 12 * 12) ((x1 / 12) + (-1)))).toInt = v ∧ _)
    rw [if_neg e0, if_neg e1, if_neg e2]
    have ex : ((x1 / 12) + (-1)).toInt = k / 12 - 1 := by rw [tadd (by rw [ed, tlm1]; omega), ed, tlm1]; omega
    obtain ⟨b1, b2⟩ := beyond_at (s := s) (x := x1 - x1 / 12 * 12) (y := (x1 / 12) + (-1)) hT hM
    by_cases c : onMap τ (x1 - x1 / 12 * 12) ((x1 / 12) + (-1))
    · have c' := c
      unfold onMap at c'
      rw [ex, em] at c'
      refine Or.inr ⟨k - 12, ?_, Or.inr (Or.inr (Or.inr ⟨⟨⟨?_, ?_⟩, ?_⟩, by omega⟩)), Or.inr (Or.inr (Or.inr ⟨rfl, by omega⟩))⟩
      · rw [b1 c, ex, em]
        omega
      · have : (k - 12) % 12 = k % 12 := by omega
        omega
      · have : (k - 12) / 12 = k / 12 - 1 := by omega
        omega
      · have : (k - 12) / 12 = k / 12 - 1 := by omega
        omega
    · refine Or.inl ⟨b2 c, fun v hn hs => c ?_⟩
      unfold onMap
      rw [ex, em]
      have hv : k = v + 12 := by unfold sd at hs; omega
      rcases hn with ⟨_, h⟩ | ⟨_, h⟩ | ⟨_, h⟩ | ⟨h, _⟩
      · omega
      · omega
      · omega
      · have h3 := h.2
        have : k / 12 = v / 12 + 1 := by omega
        have : k % 12 = v % 12 := by omega
        have h4 := h.1.1
        omega
theorem pace_at {τ s : gSt} {b : Int32} {v : Nat} (hM : Mc τ s) (hb : b.toInt = v) (hv : v < 144) : (f_X8_paceCost s b).toInt = prF (τ.1 1 v) := by
  have e : gget s 1 b = τ.1 1 v := by
    rw [gget_in (by omega) (by rw [len144.2]; omega), hM.2.1, hb]
    rfl
  unfold f_X8_paceCost prF
  rw [e]
  split
  · rfl
  · split
    · rfl
    · split <;> rfl
theorem rise_at {τ s : gSt} {a b : Int32} {k v : Nat} (hT : InvT τ) (hM : Mc τ s) (ha : a.toInt = k) (hk : k < 144) (hb : b.toInt = v) (hv : v < 144) : (f_X8_climbBetween s a b).toInt = uT τ k v := by
  have h1 := hT.2.2.2.2.1 k
  have h2 := hT.2.2.2.2.1 v
  have e1 : gget s 0 a = τ.1 0 k := by
    rw [gget_in (by omega) (by rw [len144.1]; omega), hM.1, ha]
    rfl
  have e2 : gget s 0 b = τ.1 0 v := by
    rw [gget_in (by omega) (by rw [len144.1]; omega), hM.1, hb]
    rfl
  unfold f_X8_climbBetween uT
  rw [e1, e2, tmax, tsub (by omega), tl0]
theorem forb_at {τ s : gSt} {b : Int32} {v : Nat} (hM : Mc τ s) (hb : b.toInt = v) (hv : v < 144) : f_X8_isForbidden s b = 0 ↔ τ.1 1 v ≠ 4 := by
  have e : gget s 1 b = τ.1 1 v := by
    rw [gget_in (by omega) (by rw [len144.2]; omega), hM.2.1, hb]
    rfl
  unfold f_X8_isForbidden
  rw [e]
  by_cases c : τ.1 1 v = 4
  · rw [if_pos c]
    exact ⟨fun h => absurd h one_ne, fun h => absurd c h⟩
  · rw [if_neg c]
    exact ⟨fun _ => c, fun _ => rfl⟩
/-- what a step costs, as the class adds it up -/
theorem cost_at {τ s : gSt} {a b c : Int32} {k v : Nat} (hT : InvT τ) (hM : Mc τ s) (ha : a.toInt = k) (hk : k < 144) (hb : b.toInt = v) (hv : v < 144) (hc : 0 ≤ c.toInt ∧ c.toInt ≤ 152640) : ((c + f_X8_paceCost s b) + (4 * f_X8_climbBetween s a b)).toInt = c.toInt + wT τ k v := by
  obtain ⟨w1, w2, w3, w4, w5⟩ := wT_in hT k v
  have ep := pace_at hM hb hv
  have er := rise_at hT hM ha hk hb hv
  have pin := prF_in (τ.1 1 v)
  have e4 : (4 * f_X8_climbBetween s a b).toInt = 4 * uT τ k v := by rw [tmul (by rw [tl4, er]; omega), tl4, er]
  have eS : (c + f_X8_paceCost s b).toInt = c.toInt + prF (τ.1 1 v) := by rw [tadd (by rw [ep]; omega), ep]
  rw [tadd (by rw [eS, e4]; omega), eS, e4]
  unfold wT
  omega
