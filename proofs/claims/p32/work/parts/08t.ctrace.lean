/-! ===== pure: the class traces its lines ===== -/
theorem cnt_none {p : Nat → Prop} : ∀ n : Nat, (∀ k, k < n → ¬ p k) → cnt p n = 0 := by
  intro n
  induction n with
  | zero => intro _; rfl
  | succ n ih => intro h; rw [cnt_neg (h n (by omega)), ih (fun k hk => h k (by omega))]
theorem cnt_ex {p : Nat → Prop} {n : Nat} (h : 0 < cnt p n) : ∃ k, k < n ∧ p k := by
  refine Classical.byContradiction (fun g => ?_)
  rw [cnt_none n (fun k hk hp => g ⟨k, hk, hp⟩)] at h
  omega
def MC (σ τ : gSt) (lv : Int32) (s : gSt) : Prop := CB σ lv s ∧ ∃ f : Nat → Nat, (∀ i, gapP τ lv i → f i < 288) ∧ Kern (gapP τ lv) f (mStar τ lv) ∧ ∀ r, r < 288 → s.1 3 r = Int32.ofNat (cnt (fun i => gapP τ lv i ∧ f i = r) 288) ∧ s.1 4 r = Int32.ofNat (cnt (fun i => gapP τ lv i ∧ f i = r ∧ border τ i) 288)
theorem fill_at {σ : gSt} {r : Nat} {x : Int32} {j k : Nat} : (gfill σ r x).1 j k = if j = r then (if k < gLen r then x else σ.1 r k) else σ.1 j k := by
  rw [gfill_eq, sa_1]
  split <;> rfl
theorem CB.fill {σ s : gSt} {lv : Int32} {r : Nat} {x : Int32} (h : CB σ lv s) (hr : ¬ ck r) : CB σ lv (gfill s r x) := by
  rw [gfill_eq]
  exact h.sa hr
theorem trace_c {σ τ : gSt} {N : Nat} {lv : Int32} (hR : Rel σ τ) (hN : 288 < N) (hl : 1 ≤ lv.toInt ∧ lv.toInt ≤ 255) : Ok (MC σ τ lv) (f_X0_trace N σ lv) := by
  unfold f_X0_trace
  have hB : CB σ lv (g_sf σ 2 lv) := ⟨Kc.rf.sf (by unfold cf; decide), by rw [sf_2, if_pos rfl]⟩
  have hB := ((hB.fill (r := 2) (x := -1) (by unfold ck; decide)).fill (r := 3) (x := 0) (by unfold ck; decide)).fill (r := 4) (x := 0) (by unfold ck; decide)
  generalize hs : gfill (gfill (gfill (g_sf σ 2 lv) 2 (-1)) 3 0) 4 0 = s0 at hB ⊢
  have a2 : ∀ k, k < 288 → s0.1 2 k = -1 := fun k hk => by
    rw [← hs, fill_at, if_neg (by decide), fill_at, if_neg (by decide), fill_at, if_pos rfl, if_pos (by rw [len288.1]; exact hk)]
  have a3 : ∀ k, k < 288 → s0.1 3 k = 0 := fun k hk => by
    rw [← hs, fill_at, if_neg (by decide), fill_at, if_pos rfl, if_pos (by rw [len288.2.1]; exact hk)]
  have a4 : ∀ k, k < 288 → s0.1 4 k = 0 := fun k hk => by
    rw [← hs, fill_at, if_pos rfl, if_pos (by rw [len288.2.2]; exact hk)]
  refine (findGaps_c (B3 := s0.1 3) (B4 := s0.1 4) hR (by omega) ⟨hB, rfl, rfl, fun k hk => ⟨fun _ h => h.elim, fun _ => a2 k hk⟩⟩).bind (fun s1 h1 => ?_)
  refine (joinGaps_c hR hN hl ⟨h1.1, h1.2.1, h1.2.2.1, fun i => i, fun k hk => ⟨fun hg => (h1.2.2.2 k hk).1 hg trivial, fun hg => (h1.2.2.2 k hk).2 (fun g => hg g.1)⟩, ⟨fun _ h => h, fun _ _ => rfl⟩, fun _ _ _ _ => Iff.rfl⟩).bind (fun s2 h2 => ?_)
  obtain ⟨b1, b2, b3, L, b4, b5, b6⟩ := h2
  refine (lines_c (H := s2.1 2) hR hN b4 b5 (Nat.le_refl _) ⟨b1, rfl, fun r hr => ⟨?_, ?_⟩⟩).bind (fun s3 h3 => Ok.some ⟨h3.1, walk L 288, fun i hi => gapP_lt (walk_G b5.1 288 i hi), b6, fun r hr => ?_⟩)
  · rw [b2, a3 r hr, cnt_none 288 (fun k _ g => g.2.1)]
    rfl
  · rw [b3, a4 r hr, cnt_none 288 (fun k _ g => g.2.1)]
    rfl
  · obtain ⟨q1, q2⟩ := h3.2.2 r hr
    rw [q1, q2]
    exact ⟨congrArg Int32.ofNat (cnt_congr 288 (fun i _ => ⟨fun g => ⟨g.1, g.2.2⟩, fun g => ⟨g.1, trivial, g.2⟩⟩)), congrArg Int32.ofNat (cnt_congr 288 (fun i _ => ⟨fun g => ⟨g.1, g.2.2⟩, fun g => ⟨g.1, trivial, g.2⟩⟩))⟩
/-- a count over the numbers below 288, by a loop -/
theorem count_eq {N : Nat} {p : Nat → Prop} {b : (Int32 → Int32 → Option Int32) → Int32 → Int32 → Option Int32} (hN : 288 < N) (b0 : ∀ self x v, 288 ≤ v → b self x v = some x) (b1 : ∀ self x (v : Int32), 0 ≤ v.toInt → v.toInt < 288 → b self x v = self (cif (p v.toInt.toNat) (x + 1) x) (v + 1)) : gLoop2 b N 0 0 = some (Int32.ofNat (cnt p 288)) := by
  refine gLoop2_eq (fun m x v => (0 ≤ v.toInt ∧ v.toInt ≤ 288) ∧ (m : Int) = 288 - v.toInt ∧ x = Int32.ofNat (cnt p v.toInt.toNat)) ?_ N 288 0 0 hN ⟨by rw [tl0]; omega, by rw [tl0]; rfl, rfl⟩
  intro m x v self ⟨hv, hm, hx⟩ ih
  by_cases c : 288 ≤ v
  · rw [b0 self x v c, hx]
    rw [tle, tl288] at c
    rw [show v.toInt.toNat = 288 by omega]
  · rw [tle, tl288] at c
    have e1 := inc1 (v := v) (n := 288) (by omega) (by omega)
    rw [b1 self x v hv.1 (by omega)]
    refine ih (m - 1) _ _ (by omega) ⟨by rw [e1]; omega, by rw [e1]; omega, ?_⟩
    rw [e1, show (v.toInt + 1).toNat = v.toInt.toNat + 1 by omega, hx]
    have := cnt_le (p := p) v.toInt.toNat
    by_cases h : p v.toInt.toNat
    · rw [cif_pos h, cnt_pos h, ofn_one (by omega)]
    · rw [cif_neg h, cnt_neg h]
theorem lineCount_c {s : gSt} {N : Nat} (hN : 288 < N) : f_X0_lineCount N s = some (Int32.ofNat (cnt (fun r => 0 < (s.1 3 r).toInt) 288)) := by
  unfold f_X0_lineCount
  refine count_eq hN (fun self x v h => if_pos h) (fun self x v h1 h2 => ?_)
  rw [if_neg (by rw [tle, tl288]; omega), gget_in h1 (by rw [len288.2.1]; omega)]
  simp only [gJoin1]
  by_cases c : s.1 3 v.toInt.toNat ≤ 0
  · rw [if_pos c, cif_neg (by rw [tle, tl0] at c; omega)]
  · rw [if_neg c, cif_pos (by rw [tle, tl0] at c; omega)]
theorem ringCount_c {s : gSt} {N : Nat} (hN : 288 < N) : f_X0_ringCount N s = some (Int32.ofNat (cnt (fun r => 0 < (s.1 3 r).toInt ∧ s.1 4 r = 0) 288)) := by
  unfold f_X0_ringCount
  refine count_eq hN (fun self x v h => if_pos h) (fun self x v h1 h2 => ?_)
  rw [if_neg (by rw [tle, tl288]; omega), gget_in h1 (by rw [len288.2.1]; omega), gget_in h1 (by rw [len288.2.2]; omega)]
  simp only [gJoin1]
  by_cases c : s.1 3 v.toInt.toNat ≤ 0
  · rw [if_pos c, cif_neg (by rw [tle, tl0] at c; omega)]
  · rw [if_neg c]
    by_cases c2 : s.1 4 v.toInt.toNat = 0
    · rw [if_pos c2, cif_pos ⟨by rw [tle, tl0] at c; omega, c2⟩]
    · rw [if_neg c2, cif_neg (fun g => c2 g.2)]
/-- the most of 288 numbers, by a loop -/
def Most (g : Nat → Int32) (x : Int32) (n : Nat) : Prop := 0 ≤ x.toInt ∧ (∀ r, r < n → (g r).toInt ≤ x.toInt) ∧ (x = 0 ∨ ∃ r, r < n ∧ x = g r)
theorem most_eq {N : Nat} {g : Nat → Int32} {b : (Int32 → Int32 → Option Int32) → Int32 → Int32 → Option Int32} (hN : 288 < N) (b0 : ∀ self x v, 288 ≤ v → b self x v = some x) (b1 : ∀ self x (v : Int32), 0 ≤ v.toInt → v.toInt < 288 → ∃ y, y.toInt = max x.toInt (g v.toInt.toNat).toInt ∧ b self x v = self y (v + 1)) : Ok (fun x => Most g x 288) (gLoop2 b N 0 0) := by
  refine gLoop2_ok (fun m x v => (0 ≤ v.toInt ∧ v.toInt ≤ 288) ∧ (m : Int) = 288 - v.toInt ∧ Most g x v.toInt.toNat) ?_ N 288 0 0 hN ⟨by rw [tl0]; omega, by rw [tl0]; rfl, by rw [tl0]; omega, fun r hr => by rw [tl0] at hr; exact absurd hr (by omega), Or.inl rfl⟩
  intro m x v self ⟨hv, hm, hx0, hx1, hx2⟩ ih
  by_cases c : 288 ≤ v
  · rw [b0 self x v c]
    rw [tle, tl288] at c
    rw [show v.toInt.toNat = 288 by omega] at hx1 hx2
    exact Ok.some ⟨hx0, hx1, hx2⟩
  · rw [tle, tl288] at c
    have e1 := inc1 (v := v) (n := 288) (by omega) (by omega)
    obtain ⟨y, hy, e⟩ := b1 self x v hv.1 (by omega)
    rw [e]
    refine ih (m - 1) _ _ (by omega) ⟨by rw [e1]; omega, by rw [e1]; omega, by omega, fun r hr => ?_, ?_⟩
    · rw [e1] at hr
      by_cases er : r = v.toInt.toNat
      · rw [er]; omega
      · have := hx1 r (by omega); omega
    · rw [e1]
      by_cases q : (g v.toInt.toNat).toInt ≤ x.toInt
      · have ey : y = x := by rw [teq]; omega
        rw [ey]
        rcases hx2 with h | ⟨r, h1, h2⟩
        · exact Or.inl h
        · exact Or.inr ⟨r, by omega, h2⟩
      · exact Or.inr ⟨v.toInt.toNat, by omega, by rw [teq]; omega⟩
theorem mostGaps_c {s : gSt} {N : Nat} (hN : 288 < N) : Ok (fun x => Most (s.1 3) x 288) (f_X0_mostGaps N s) := by
  unfold f_X0_mostGaps
  refine most_eq hN (fun self x v h => if_pos h) (fun self x v h1 h2 => ⟨jmax x (gget s 3 v), ?_, ?_⟩)
  · rw [tmax, gget_in h1 (by rw [len288.2.1]; omega)]
  · rw [if_neg (by rw [tle, tl288]; omega)]
