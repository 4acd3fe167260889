/-! ===== pure: gaps, on both sides ===== -/
def high (τ : gSt) (lv : Int32) (q : Nat) : Prop := lv.toInt ≤ (τ.1 0 q).toInt
def gapP (τ : gSt) (lv : Int32) (k : Nat) : Prop :=
  (k < 144 ∧ ((k % 12 : Nat) : Int) + 1 < (τ.2 0).toInt ∧ ((k / 12 : Nat) : Int) < (τ.2 1).toInt ∧ ¬ (high τ lv k ↔ high τ lv (k + 1))) ∨ (144 ≤ k ∧ k < 288 ∧ (((k - 144) % 12 : Nat) : Int) < (τ.2 0).toInt ∧ (((k - 144) / 12 : Nat) : Int) + 1 < (τ.2 1).toInt ∧ ¬ (high τ lv (k - 144) ↔ high τ lv (k - 132)))
theorem gapP_lt {τ : gSt} {lv : Int32} {k : Nat} (h : gapP τ lv k) : k < 288 := by
  rcases h with h | h <;> omega
theorem div144 {v : Int32} (h : 0 ≤ v.toInt) : (v / 144).toInt = v.toInt / 144 := by
  rw [tdiv' h (by rw [tl144]; omega), tl144]
theorem mod144 {v : Int32} (h : 0 ≤ v.toInt) : (v - v / 144 * 144).toInt = v.toInt % 144 := by
  have hr := tR v
  have e : (v / 144 * 144).toInt = v.toInt / 144 * 144 := by rw [tmul (by rw [div144 h, tl144]; omega), div144 h, tl144]
  rw [tsub (by rw [e]; omega), e]
  omega
/-- the same map, the same controls, the same runners: what an asking call of the reference leaves -/
def Mp (τ s : gSt) : Prop := s.1 0 = τ.1 0 ∧ s.1 1 = τ.1 1 ∧ s.2 0 = τ.2 0 ∧ s.2 1 = τ.2 1
theorem Km.mp {τ s : gSt} (h : Km τ s) : Mp τ s := ⟨h.1 0 (by decide), h.1 1 (by decide), h.2 0 (by decide), h.2 1 (by decide)⟩
theorem Mp.invT {τ s : gSt} (h : Mp τ s) (hT : InvT τ) : InvT s := by
  obtain ⟨m0, m1, m2, m3⟩ := h
  unfold InvT at hT ⊢
  rw [m0, m1, m2, m3]
  exact hT
theorem lo_iff {τ s : gSt} {lv i : Int32} {n : Nat} (hM : Mp τ s) (h : i.toInt = n) : g_ga s 0 i < lv ↔ ¬ high τ lv n := by
  unfold high
  rw [ga_at h, hM.1, tlt]
  omega
theorem gap_tail {τ s : gSt} {lv q w : Int32} {a b : Nat} {r : Option Int32} (hM : Mp τ s) (hq : q.toInt = a) (ha : a < 144) (hw : w.toInt = b) (hb : b < 144) (h1 : ¬ (high τ lv a ↔ high τ lv b) → some 1 = r) (h0 : (high τ lv a ↔ high τ lv b) → some 0 = r) : (if q < 0 ∨ 144 ≤ q.toNatClampNeg then none else if g_ga s 0 q < lv then (if w < 0 ∨ 144 ≤ w.toNatClampNeg then none else if g_ga s 0 w < lv then (if (0 : Int32) = 0 then some 0 else some 1) else if (0 : Int32) = 1 then some 0 else some 1) else (if w < 0 ∨ 144 ≤ w.toNatClampNeg then none else if g_ga s 0 w < lv then (if (1 : Int32) = 0 then some 0 else some 1) else if (1 : Int32) = 1 then some 0 else some 1)) = r := by
  have lq := lo_iff (lv := lv) hM hq
  have lw := lo_iff (lv := lv) hM hw
  rw [if_neg (by rw [tlt, tl0, tcl, hq]; omega)]
  have gw : ¬ (w < 0 ∨ 144 ≤ w.toNatClampNeg) := by rw [tlt, tl0, tcl, hw]; omega
  by_cases c1 : g_ga s 0 q < lv
  · rw [if_pos c1, if_neg gw]
    have n1 := lq.mp c1
    by_cases c2 : g_ga s 0 w < lv
    · rw [if_pos c2, if_pos rfl]
      have n2 := lw.mp c2
      exact h0 ⟨fun h => absurd h n1, fun h => absurd h n2⟩
    · rw [if_neg c2, if_neg (by decide)]
      have n2 : high τ lv b := Classical.byContradiction (fun h => c2 (lw.mpr h))
      exact h1 (fun h => n1 (h.mpr n2))
  · rw [if_neg c1, if_neg gw]
    have n1 : high τ lv a := Classical.byContradiction (fun h => c1 (lq.mpr h))
    by_cases c2 : g_ga s 0 w < lv
    · rw [if_pos c2, if_neg one_ne]
      have n2 := lw.mp c2
      exact h1 (fun h => n2 (h.mp n1))
    · rw [if_neg c2, if_pos rfl]
      have n2 : high τ lv b := Classical.byContradiction (fun h => c2 (lw.mpr h))
      exact h0 ⟨fun _ => n2, fun _ => n1⟩
theorem isGap_m {τ s : gSt} {N : Nat} {v lv : Int32} {r : Option Int32} (hT : InvT τ) (hM : Mp τ s) (hv : 0 ≤ v.toInt ∧ v.toInt < 288) (h1 : gapP τ lv v.toInt.toNat → some 1 = r) (h0 : ¬ gapP τ lv v.toInt.toNat → some 0 = r) : f_X10_isGap N s v lv = r := by
  have hTs := hM.invT hT
  have m2 : (s.2 0) = τ.2 0 := hM.2.2.1
  have m3 : (s.2 1) = τ.2 1 := hM.2.2.2
  obtain ⟨w1, w2, w3, w4, -⟩ := hT
  have e144 := mod144 hv.1
  have ed := div12 (v := v - v / 144 * 144) (by rw [e144]; omega)
  have em := mod12 (v := v - v / 144 * 144) (by rw [e144]; omega)
  have ed1 := inc1 (v := (v - v / 144 * 144) / 12) (n := 12) (by rw [ed, e144]; omega) (by omega)
  have em1 := inc1 (v := (v - v / 144 * 144) - (v - v / 144 * 144) / 12 * 12) (n := 12) (by rw [em]; omega) (by omega)
  rw [ed, e144] at ed1
  rw [em, e144] at em1
  rw [e144] at ed em
  unfold f_X10_isGap
  simp only [gJoin0, gJoin1, if_true, if_neg one_ne]
  unfold gapP at h1 h0
  by_cases c : 144 ≤ v
  · rw [if_pos c, if_pos c]
    rw [tle, tl144] at c
    by_cases hc : onMap s (v - v / 144 * 144 - (v - v / 144 * 144) / 12 * 12) ((v - v / 144 * 144) / 12)
    · rw [cell_yes hTs hc, if_neg one_ne]
      unfold onMap at hc
      rw [em, ed, m2, m3] at hc
      by_cases c2 : s.2 1 ≤ (v - v / 144 * 144) / 12 + 1
      · rw [if_pos c2]
        rw [m3, tle, ed1] at c2
        refine h0 (fun h => ?_)
        rcases h with h | h <;> omega
      · rw [if_neg c2]
        rw [m3, tle, ed1] at c2
        have e12 : (v - v / 144 * 144 + 12).toInt = ((v.toInt.toNat - 132 : Nat) : Int) := by rw [tadd (by rw [e144, tl12]; omega), e144, tl12]; omega
        refine gap_tail (a := v.toInt.toNat - 144) (b := v.toInt.toNat - 132) hM (by rw [e144]; omega) (by omega) e12 (by omega) (fun h => ?_) (fun h => ?_)
        · exact h1 (Or.inr ⟨by omega, by omega, by omega, by omega, h⟩)
        · refine h0 (fun g => ?_)
          rcases g with g | g
          · omega
          · exact g.2.2.2.2 h
    · rw [cell_no hTs hc, if_pos rfl]
      refine h0 (fun h => hc ?_)
      unfold onMap
      rw [em, ed, m2, m3]
      rcases h with h | h <;> omega
  · rw [if_neg c, if_neg c]
    rw [tle, tl144] at c
    by_cases hc : onMap s (v - v / 144 * 144 - (v - v / 144 * 144) / 12 * 12) ((v - v / 144 * 144) / 12)
    · rw [cell_yes hTs hc, if_neg one_ne]
      unfold onMap at hc
      rw [em, ed, m2, m3] at hc
      by_cases c2 : s.2 0 ≤ (v - v / 144 * 144 - (v - v / 144 * 144) / 12 * 12) + 1
      · rw [if_pos c2]
        rw [m2, tle, em1] at c2
        refine h0 (fun h => ?_)
        rcases h with h | h <;> omega
      · rw [if_neg c2]
        rw [m2, tle, em1] at c2
        have e12 : (v - v / 144 * 144 + 1).toInt = ((v.toInt.toNat + 1 : Nat) : Int) := by rw [tadd (by rw [e144, tl1]; omega), e144, tl1]; omega
        refine gap_tail (a := v.toInt.toNat) (b := v.toInt.toNat + 1) hM (by rw [e144]; omega) (by omega) e12 (by omega) (fun h => ?_) (fun h => ?_)
        · exact h1 (Or.inl ⟨by omega, by omega, by omega, h⟩)
        · refine h0 (fun g => ?_)
          rcases g with g | g
          · exact g.2.2.2 h
          · omega
    · rw [cell_no hTs hc, if_pos rfl]
      refine h0 (fun h => hc ?_)
      unfold onMap
      rw [em, ed, m2, m3]
      rcases h with h | h <;> omega
