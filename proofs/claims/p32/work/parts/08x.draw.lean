/-! ===== pure: draw ===== -/
theorem Least.congr {P Q : Nat → Prop} {lot lot' : Nat → Int32} {n : Nat} {r : Int32} (h : Least P lot n r) (hP : ∀ i, i < n → (P i ↔ Q i)) (hl : ∀ i, i < n → lot i = lot' i) : Least Q lot' n r := by
  rcases h with ⟨h1, h2⟩ | ⟨i, h1, h2, h3, h4⟩
  · exact Or.inl ⟨h1, fun i hi g => h2 i hi ((hP i hi).mpr g)⟩
  · refine Or.inr ⟨i, h1, h2, (hP i h1).mp h3, fun j hj g => ?_⟩
    rw [← hl i h1, ← hl j hj]
    exact h4 j hj ((hP j hj).mpr g)
/-- both states while starts are drawn -/
def DR (n : Nat) (s t : gSt) : Prop := s.1 16 = t.1 6 ∧ s.1 17 = t.1 7 ∧ (∀ i, i < n → s.1 19 i = t.1 8 i) ∧ (∀ i, i < n → s.1 18 i = t.1 17 i) ∧ (∀ i, i < n → 0 ≤ (t.1 7 i).toInt) ∧ (s.2 10).toInt = n ∧ (t.2 3).toInt = n
theorem pick_eq {s t : gSt} {n N : Nat} {k av : Int32} (hN : 24 < N) (hn : n ≤ 24) (h : DR n s t) : ∃ r q, f_X3_leastLot N s k av = some r ∧ f_X3_leastLot N s k (-1) = some q ∧ f_X10_next N t k av = some (if r = -1 then q else r) ∧ Least (candM t k) (t.1 17) n q ∧ ((if r = -1 then q else r) = -1 ∨ (0 ≤ (if r = -1 then q else r).toInt ∧ (if r = -1 then q else r).toInt < n ∧ candM t k (if r = -1 then q else r).toInt.toNat)) ∧ ((if r = -1 then q else r) = -1 → ∀ i, i < n → ¬ candM t k i) := by
  obtain ⟨d1, d2, d3, d4, d5, d6, d7⟩ := h
  obtain ⟨r, hr, lr⟩ := least_c (s := s) (k := k) (av := av) hN d6 hn
  obtain ⟨q, hq, lq⟩ := least_c (s := s) (k := k) (av := -1) hN d6 hn
  obtain ⟨p, hp, np⟩ := next_m (τ := t) (k := k) (av := av) hN d7 hn
  have c1 : ∀ i, i < n → (candC s k av i ↔ candF t k av i) := fun i hi => by
    unfold candC candF candM
    rw [d1, d2, d3 i hi]
    exact ⟨fun g => ⟨⟨g.1, g.2.1⟩, g.2.2⟩, fun g => ⟨g.1.1, g.1.2, g.2⟩⟩
  have c2 : ∀ i, i < n → (candC s k (-1) i ↔ candM t k i) := fun i hi => by
    unfold candC candM
    rw [d1, d2, d3 i hi]
    refine ⟨fun g => ⟨g.1, g.2.1⟩, fun g => ⟨g.1, g.2, fun e => ?_⟩⟩
    have := d5 i hi
    rw [e, tlm1] at this
    omega
  have lr2 := lr.congr c1 d4
  have lq2 := lq.congr c2 d4
  have e : p = if r = -1 then q else r := by
    rcases np with ⟨n1, n2⟩ | ⟨n1, n2⟩
    · have e := lr2.eq n2
      rw [if_neg (by rw [e]; exact n1), e]
    · have e : r = -1 := by
        refine Classical.byContradiction (fun g => ?_)
        obtain ⟨g1, g2, g3⟩ := lr2.in_ g
        exact n1 _ (by omega) g3
      rw [if_pos e]
      exact n2.eq lq2
  refine ⟨r, q, hr, hq, by rw [hp, e], lq2, ?_, ?_⟩
  · by_cases h1 : r = -1
    · rw [if_pos h1]
      by_cases h2 : q = -1
      · exact Or.inl h2
      · exact Or.inr (lq2.in_ h2)
    · rw [if_neg h1]
      obtain ⟨g1, g2, g3⟩ := lr2.in_ h1
      exact Or.inr ⟨g1, g2, g3.1⟩
  · intro h1 i hi hc
    by_cases h2 : r = -1
    · rw [if_pos h2] at h1
      rcases lq2 with ⟨_, g⟩ | ⟨j, _, g, _⟩
      · exact g i hi hc
      · rw [h1, tlm1] at g
        omega
    · rw [if_neg h2] at h1
      exact h2 h1
/-- the lots, one after another -/
def lotX (x : Int32) : Nat → Int32
  | 0 => x
  | n + 1 => ((421 * lotX x n) + 1663) - ((421 * lotX x n) + 1663) / 7875 * 7875
theorem cnt_full {p : Nat → Prop} : ∀ n : Nat, cnt p n = n → ∀ k, k < n → p k := by
  intro n
  induction n with
  | zero => intro _ k hk; omega
  | succ n ih =>
    intro h k hk
    have := cnt_le (p := p) n
    by_cases hp : p n
    · rw [cnt_pos hp] at h
      by_cases e : k = n
      · rw [e]; exact hp
      · exact ih (by omega) k (by omega)
    · rw [cnt_neg hp] at h
      omega
/-- what stays while starts are drawn -/
def KD (s0 t0 s t : gSt) : Prop := (∀ r, ck r → r ≠ 19 → s.1 r = s0.1 r) ∧ (∀ k, cf k → s.2 k = s0.2 k) ∧ (∀ r, r ≤ 11 → r ≠ 8 → t.1 r = t0.1 r) ∧ (∀ k, k ≤ 4 ∨ k = 6 → t.2 k = t0.2 k) ∧ (∀ i : Nat, 24 ≤ i ∨ (t0.2 3).toInt ≤ (i : Int) → t.1 8 i = t0.1 8 i)
/-- the starts that were drawn are 0 to 230, the others not -/
def SD (n : Nat) (t : gSt) : Prop := ∀ i, i < n → t.1 8 i = -1 ∨ (0 ≤ (t.1 8 i).toInt ∧ (t.1 8 i).toInt ≤ 230)
theorem DR.put {n : Nat} {s t : gSt} {v x : Int32} (h : DR n s t) (hn : n ≤ 24) (h0 : 0 ≤ v.toInt) (h1 : v.toInt < n) : DR n (gput s 19 v x) (g_pa t 8 v x) := by
  obtain ⟨d1, d2, d3, d4, d5, d6, d7⟩ := h
  rw [gput_pa h0 (by rw [len24]; omega)]
  refine ⟨d1, d2, fun i hi => ?_, d4, d5, d6, d7⟩
  rw [pa_1, if_pos rfl, pa_1, if_pos rfl, upd_at, upd_at]
  split
  · rfl
  · exact d3 i hi
theorem KD.put {n : Nat} {s0 t0 s t : gSt} {v x : Int32} (h : KD s0 t0 s t) (hn : n ≤ 24) (h0 : 0 ≤ v.toInt) (h1 : v.toInt < n) (h2 : (t0.2 3).toInt = n) : KD s0 t0 (gput s 19 v x) (g_pa t 8 v x) := by
  obtain ⟨k1, k2, k3, k4, k5⟩ := h
  rw [gput_pa h0 (by rw [len24]; omega)]
  refine ⟨fun r hr hn => ?_, k2, fun r hr hn => ?_, k4, fun i hi => ?_⟩
  · rw [pa_1, if_neg hn]; exact k1 r hr hn
  · rw [pa_1, if_neg hn]; exact k3 r hr hn
  · rw [pa_1, if_pos rfl, upd_at, if_neg (by omega)]
    exact k5 i hi
