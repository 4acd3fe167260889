/-! ===== pure: whole numbers of 32 bits, read as integers ===== -/
theorem tR (x : Int32) : -2147483648 ≤ x.toInt ∧ x.toInt < 2147483648 := ⟨by have := Int32.le_toInt x; omega, by have := Int32.toInt_lt x; omega⟩
theorem bm {z : Int} (h : -2147483648 ≤ z ∧ z < 2147483648) : z.bmod (2 ^ 32) = z := Int.bmod_eq_of_le (by omega) (by omega)
theorem tadd {x y : Int32} (h : -2147483648 ≤ x.toInt + y.toInt ∧ x.toInt + y.toInt < 2147483648) : (x + y).toInt = x.toInt + y.toInt := by rw [Int32.toInt_add, bm h]
theorem tsub {x y : Int32} (h : -2147483648 ≤ x.toInt - y.toInt ∧ x.toInt - y.toInt < 2147483648) : (x - y).toInt = x.toInt - y.toInt := by rw [Int32.toInt_sub, bm h]
theorem tmul {x y : Int32} (h : -2147483648 ≤ x.toInt * y.toInt ∧ x.toInt * y.toInt < 2147483648) : (x * y).toInt = x.toInt * y.toInt := by rw [Int32.toInt_mul, bm h]
theorem tdiv' {x y : Int32} (h : 0 ≤ x.toInt) (h2 : 0 < y.toInt) : (x / y).toInt = x.toInt / y.toInt := by
  rw [Int32.toInt_div_of_ne_right _ _ (by rintro rfl; simp at h2), Int.tdiv_eq_ediv_of_nonneg h]
theorem tl0 : (0 : Int32).toInt = 0 := rfl
theorem tl1 : (1 : Int32).toInt = 1 := rfl
theorem tl2 : (2 : Int32).toInt = 2 := rfl
theorem tl3 : (3 : Int32).toInt = 3 := rfl
theorem tl4 : (4 : Int32).toInt = 4 := rfl
theorem tl5 : (5 : Int32).toInt = 5 := rfl
theorem tl6 : (6 : Int32).toInt = 6 := rfl
theorem tl7 : (7 : Int32).toInt = 7 := rfl
theorem tl10 : (10 : Int32).toInt = 10 := rfl
theorem tl11 : (11 : Int32).toInt = 11 := rfl
theorem tl12 : (12 : Int32).toInt = 12 := rfl
theorem tl13 : (13 : Int32).toInt = 13 := rfl
theorem tl20 : (20 : Int32).toInt = 20 := rfl
theorem tl24 : (24 : Int32).toInt = 24 := rfl
theorem tl40 : (40 : Int32).toInt = 40 := rfl
theorem tl144 : (144 : Int32).toInt = 144 := rfl
theorem tl145 : (145 : Int32).toInt = 145 := rfl
theorem tl255 : (255 : Int32).toInt = 255 := rfl
theorem tl288 : (288 : Int32).toInt = 288 := rfl
theorem tl421 : (421 : Int32).toInt = 421 := rfl
theorem tl1000 : (1000 : Int32).toInt = 1000 := rfl
theorem tl1663 : (1663 : Int32).toInt = 1663 := rfl
theorem tl7874 : (7874 : Int32).toInt = 7874 := rfl
theorem tl7875 : (7875 : Int32).toInt = 7875 := rfl
theorem tl9999 : (9999 : Int32).toInt = 9999 := rfl
theorem tlfar : (1000000000 : Int32).toInt = 1000000000 := rfl
theorem tlm1 : (-1 : Int32).toInt = -1 := rfl
theorem tnat {n : Nat} (h : n < 2147483648) : (Int32.ofNat n).toInt = n := Int32.toInt_ofNat_of_lt h
theorem tcl (x : Int32) : x.toNatClampNeg = x.toInt.toNat := rfl
theorem teq {x y : Int32} : x = y ↔ x.toInt = y.toInt := Int32.toInt_inj.symm
theorem tlt {x y : Int32} : x < y ↔ x.toInt < y.toInt := Int32.lt_iff_toInt_lt
theorem tle {x y : Int32} : x ≤ y ↔ x.toInt ≤ y.toInt := Int32.le_iff_toInt_le
theorem tmax {x y : Int32} : (jmax x y).toInt = max x.toInt y.toInt := by
  unfold jmax
  rw [Int.max_def]
  by_cases h : x < y
  · rw [if_pos h, if_pos (by rw [tlt] at h; omega)]
  · rw [if_neg h]
    rw [tlt] at h
    split <;> omega
theorem tmin {x y : Int32} : (jmin x y).toInt = min x.toInt y.toInt := by
  unfold jmin
  rw [Int.min_def]
  by_cases h : y < x
  · rw [if_pos h]
    rw [tlt] at h
    split <;> omega
  · rw [if_neg h, if_pos (by rw [tlt] at h; omega)]
theorem tabs {x : Int32} (h : x.toInt ≠ -2147483648) : (jabs x).toInt = (x.toInt.natAbs : Int) := by
  unfold jabs
  have hr := tR x
  by_cases c : 0 ≤ x
  · rw [if_pos c]
    rw [tle, tl0] at c
    omega
  · rw [if_neg c]
    rw [tle, tl0] at c
    rw [tsub (by rw [tl0]; omega), tl0]
    omega
/-- a number between 0 and 12 · 12, by its number -/
theorem ofN_eq {x : Int32} {n : Nat} (h : x.toInt = n) : x = Int32.ofNat n := by
  have hr := tR x
  exact teq.mpr (by rw [tnat (by omega)]; exact h)
theorem gget_in {σ : gSt} {r : Nat} {i : Int32} (h0 : 0 ≤ i.toInt) (h1 : i.toInt < gLen r) : gget σ r i = σ.1 r i.toInt.toNat := by
  unfold gget g_ga
  have := gLen_le r
  rw [if_neg (by rw [tlt, tl0]; omega), if_neg (by rw [tle, tnat (by omega)]; omega), tcl]
theorem gget_out {σ : gSt} {r : Nat} {i : Int32} (h : i.toInt < 0 ∨ gLen r ≤ i.toInt) : gget σ r i = -1 := by
  unfold gget
  have := gLen_le r
  by_cases c : i < 0
  · rw [if_pos c]
  · rw [if_neg c, if_pos (by rw [tlt, tl0] at c; rw [tle, tnat (by omega)]; omega)]
theorem gput_in {σ : gSt} {r : Nat} {i x : Int32} (h0 : 0 ≤ i.toInt) (h1 : i.toInt < gLen r) : gput σ r i x = g_sa σ r (upd (σ.1 r) i.toInt.toNat x) := by
  unfold gput g_pa
  have := gLen_le r
  rw [if_neg (by rw [tlt, tl0]; omega), if_neg (by rw [tle, tnat (by omega)]; omega), tcl]
theorem sa_1 {σ : gSt} {r : Nat} {f : Nat → Int32} {j : Nat} : (g_sa σ r f).1 j = if j = r then f else σ.1 j := rfl
theorem sa_2 {σ : gSt} {r : Nat} {f : Nat → Int32} {j : Nat} : (g_sa σ r f).2 j = σ.2 j := rfl
theorem sf_1 {σ : gSt} {k : Nat} {x : Int32} {j : Nat} : (g_sf σ k x).1 j = σ.1 j := rfl
theorem sf_2 {σ : gSt} {k : Nat} {x : Int32} {j : Nat} : (g_sf σ k x).2 j = if j = k then x else σ.2 j := rfl
theorem pa_1 {σ : gSt} {r : Nat} {i x : Int32} {j : Nat} : (g_pa σ r i x).1 j = if j = r then upd (σ.1 r) i.toInt.toNat x else σ.1 j := rfl
theorem pa_2 {σ : gSt} {r : Nat} {i x : Int32} {j : Nat} : (g_pa σ r i x).2 j = σ.2 j := rfl
theorem ga_eq {σ : gSt} {r : Nat} {i : Int32} : g_ga σ r i = σ.1 r i.toInt.toNat := rfl
theorem upd_at {f : Nat → Int32} {k : Nat} {x : Int32} {j : Nat} : upd f k x j = if j = k then x else f j := rfl
theorem gfill_eq {σ : gSt} {r : Nat} {x : Int32} : gfill σ r x = g_sa σ r (fun j => if j < gLen r then x else σ.1 r j) := rfl
/-- a guard that holds -/
theorem guard_ok {T : Type} {x : Int32} {n : Nat} {o r : Option T} (h0 : 0 ≤ x.toInt) (h1 : x.toInt < n) (h : o = r) : (if x < 0 ∨ n ≤ x.toNatClampNeg then none else o) = r := by
  rw [if_neg (by rw [tlt, tl0, tcl]; omega)]
  exact h
/-- total: an Option that is something good -/
def Ok {T : Type} (P : T → Prop) (o : Option T) : Prop := ∃ t, o = some t ∧ P t
theorem Ok.some {T : Type} {P : T → Prop} {t : T} (h : P t) : Ok P (Option.some t) := ⟨t, rfl, h⟩
theorem Ok.bind {α T : Type} {Q : α → Prop} {P : T → Prop} {o : Option α} {k : α → Option T} (h : Ok Q o) (hk : ∀ v, Q v → Ok P (k v)) : Ok P (o.bind k) := by
  obtain ⟨v, rfl, hv⟩ := h
  exact hk v hv
theorem Ok.mono {T : Type} {P Q : T → Prop} {o : Option T} (h : Ok P o) (hPQ : ∀ t, P t → Q t) : Ok Q o := by
  obtain ⟨t, h1, h2⟩ := h
  exact ⟨t, h1, hPQ t h2⟩
theorem Ok.guard {T : Type} {P : T → Prop} {x : Int32} {n : Nat} {o : Option T} (h0 : 0 ≤ x.toInt) (h1 : x.toInt < n) (h : Ok P o) : Ok P (if x < 0 ∨ n ≤ x.toNatClampNeg then none else o) := by
  rw [if_neg (by rw [tlt, tl0, tcl]; omega)]
  exact h
theorem Ok.ite {T : Type} {P : T → Prop} {c : Prop} {d : Decidable c} {a b : Option T} (h1 : c → Ok P a) (h2 : ¬ c → Ok P b) : Ok P (@_root_.ite _ c d a b) := by
  by_cases h : c
  · rw [if_pos h]; exact h1 h
  · rw [if_neg h]; exact h2 h
theorem gLoop1_ok {A0 T : Type} {b : (A0 → Option T) → A0 → Option T} {P : T → Prop} (I : Nat → A0 → Prop) (step : ∀ (m : Nat) x0 (self : A0 → Option T), I m x0 → (∀ (m2 : Nat) y0, m2 < m → I m2 y0 → Ok P (self y0)) → Ok P (b self x0)) : ∀ (n m : Nat) x0, m < n → I m x0 → Ok P (gLoop1 b n x0) := by
  intro n
  induction n with
  | zero => intro m x0 h; omega
  | succ n ih => intro m x0 h hI; exact step m x0 (gLoop1 b n) hI (fun m2 y0 h2 hI2 => ih m2 y0 (by omega) hI2)
theorem gLoop2_ok {A0 A1 T : Type} {b : (A0 → A1 → Option T) → A0 → A1 → Option T} {P : T → Prop} (I : Nat → A0 → A1 → Prop) (step : ∀ (m : Nat) x0 x1 (self : A0 → A1 → Option T), I m x0 x1 → (∀ (m2 : Nat) y0 y1, m2 < m → I m2 y0 y1 → Ok P (self y0 y1)) → Ok P (b self x0 x1)) : ∀ (n m : Nat) x0 x1, m < n → I m x0 x1 → Ok P (gLoop2 b n x0 x1) := by
  intro n
  induction n with
  | zero => intro m x0 x1 h; omega
  | succ n ih => intro m x0 x1 h hI; exact step m x0 x1 (gLoop2 b n) hI (fun m2 y0 y1 h2 hI2 => ih m2 y0 y1 (by omega) hI2)
theorem gLoop3_ok {A0 A1 A2 T : Type} {b : (A0 → A1 → A2 → Option T) → A0 → A1 → A2 → Option T} {P : T → Prop} (I : Nat → A0 → A1 → A2 → Prop) (step : ∀ (m : Nat) x0 x1 x2 (self : A0 → A1 → A2 → Option T), I m x0 x1 x2 → (∀ (m2 : Nat) y0 y1 y2, m2 < m → I m2 y0 y1 y2 → Ok P (self y0 y1 y2)) → Ok P (b self x0 x1 x2)) : ∀ (n m : Nat) x0 x1 x2, m < n → I m x0 x1 x2 → Ok P (gLoop3 b n x0 x1 x2) := by
  intro n
  induction n with
  | zero => intro m x0 x1 x2 h; omega
  | succ n ih => intro m x0 x1 x2 h hI; exact step m x0 x1 x2 (gLoop3 b n) hI (fun m2 y0 y1 y2 h2 hI2 => ih m2 y0 y1 y2 (by omega) hI2)
theorem gLoop4_ok {A0 A1 A2 A3 T : Type} {b : (A0 → A1 → A2 → A3 → Option T) → A0 → A1 → A2 → A3 → Option T} {P : T → Prop} (I : Nat → A0 → A1 → A2 → A3 → Prop) (step : ∀ (m : Nat) x0 x1 x2 x3 (self : A0 → A1 → A2 → A3 → Option T), I m x0 x1 x2 x3 → (∀ (m2 : Nat) y0 y1 y2 y3, m2 < m → I m2 y0 y1 y2 y3 → Ok P (self y0 y1 y2 y3)) → Ok P (b self x0 x1 x2 x3)) : ∀ (n m : Nat) x0 x1 x2 x3, m < n → I m x0 x1 x2 x3 → Ok P (gLoop4 b n x0 x1 x2 x3) := by
  intro n
  induction n with
  | zero => intro m x0 x1 x2 x3 h; omega
  | succ n ih => intro m x0 x1 x2 x3 h hI; exact step m x0 x1 x2 x3 (gLoop4 b n) hI (fun m2 y0 y1 y2 y3 h2 hI2 => ih m2 y0 y1 y2 y3 (by omega) hI2)
theorem gLoop5_ok {A0 A1 A2 A3 A4 T : Type} {b : (A0 → A1 → A2 → A3 → A4 → Option T) → A0 → A1 → A2 → A3 → A4 → Option T} {P : T → Prop} (I : Nat → A0 → A1 → A2 → A3 → A4 → Prop) (step : ∀ (m : Nat) x0 x1 x2 x3 x4 (self : A0 → A1 → A2 → A3 → A4 → Option T), I m x0 x1 x2 x3 x4 → (∀ (m2 : Nat) y0 y1 y2 y3 y4, m2 < m → I m2 y0 y1 y2 y3 y4 → Ok P (self y0 y1 y2 y3 y4)) → Ok P (b self x0 x1 x2 x3 x4)) : ∀ (n m : Nat) x0 x1 x2 x3 x4, m < n → I m x0 x1 x2 x3 x4 → Ok P (gLoop5 b n x0 x1 x2 x3 x4) := by
  intro n
  induction n with
  | zero => intro m x0 x1 x2 x3 x4 h; omega
  | succ n ih => intro m x0 x1 x2 x3 x4 h hI; exact step m x0 x1 x2 x3 x4 (gLoop5 b n) hI (fun m2 y0 y1 y2 y3 y4 h2 hI2 => ih m2 y0 y1 y2 y3 y4 (by omega) hI2)
theorem gLoop6_ok {A0 A1 A2 A3 A4 A5 T : Type} {b : (A0 → A1 → A2 → A3 → A4 → A5 → Option T) → A0 → A1 → A2 → A3 → A4 → A5 → Option T} {P : T → Prop} (I : Nat → A0 → A1 → A2 → A3 → A4 → A5 → Prop) (step : ∀ (m : Nat) x0 x1 x2 x3 x4 x5 (self : A0 → A1 → A2 → A3 → A4 → A5 → Option T), I m x0 x1 x2 x3 x4 x5 → (∀ (m2 : Nat) y0 y1 y2 y3 y4 y5, m2 < m → I m2 y0 y1 y2 y3 y4 y5 → Ok P (self y0 y1 y2 y3 y4 y5)) → Ok P (b self x0 x1 x2 x3 x4 x5)) : ∀ (n m : Nat) x0 x1 x2 x3 x4 x5, m < n → I m x0 x1 x2 x3 x4 x5 → Ok P (gLoop6 b n x0 x1 x2 x3 x4 x5) := by
  intro n
  induction n with
  | zero => intro m x0 x1 x2 x3 x4 x5 h; omega
  | succ n ih => intro m x0 x1 x2 x3 x4 x5 h hI; exact step m x0 x1 x2 x3 x4 x5 (gLoop6 b n) hI (fun m2 y0 y1 y2 y3 y4 y5 h2 hI2 => ih m2 y0 y1 y2 y3 y4 y5 (by omega) hI2)
theorem gLoop7_ok {A0 A1 A2 A3 A4 A5 A6 T : Type} {b : (A0 → A1 → A2 → A3 → A4 → A5 → A6 → Option T) → A0 → A1 → A2 → A3 → A4 → A5 → A6 → Option T} {P : T → Prop} (I : Nat → A0 → A1 → A2 → A3 → A4 → A5 → A6 → Prop) (step : ∀ (m : Nat) x0 x1 x2 x3 x4 x5 x6 (self : A0 → A1 → A2 → A3 → A4 → A5 → A6 → Option T), I m x0 x1 x2 x3 x4 x5 x6 → (∀ (m2 : Nat) y0 y1 y2 y3 y4 y5 y6, m2 < m → I m2 y0 y1 y2 y3 y4 y5 y6 → Ok P (self y0 y1 y2 y3 y4 y5 y6)) → Ok P (b self x0 x1 x2 x3 x4 x5 x6)) : ∀ (n m : Nat) x0 x1 x2 x3 x4 x5 x6, m < n → I m x0 x1 x2 x3 x4 x5 x6 → Ok P (gLoop7 b n x0 x1 x2 x3 x4 x5 x6) := by
  intro n
  induction n with
  | zero => intro m x0 x1 x2 x3 x4 x5 x6 h; omega
  | succ n ih => intro m x0 x1 x2 x3 x4 x5 x6 h hI; exact step m x0 x1 x2 x3 x4 x5 x6 (gLoop7 b n) hI (fun m2 y0 y1 y2 y3 y4 y5 y6 h2 hI2 => ih m2 y0 y1 y2 y3 y4 y5 y6 (by omega) hI2)
