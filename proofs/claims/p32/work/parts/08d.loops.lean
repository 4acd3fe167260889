/-! ===== pure: loops whose answer is one, and the calls with short loops ===== -/
theorem gLoop1_eq {A0 T : Type} {b : (A0 → Option T) → A0 → Option T} {r : Option T} (I : Nat → A0 → Prop) (step : ∀ (m : Nat) x0 (self : A0 → Option T), I m x0 → (∀ (m2 : Nat) y0, m2 < m → I m2 y0 → self y0 = r) → b self x0 = r) : ∀ (n m : Nat) x0, m < n → I m x0 → gLoop1 b n x0 = r := by
  intro n
  induction n with
  | zero => intro m x0 h; omega
  | succ n ih => intro m x0 h hI; exact step m x0 (gLoop1 b n) hI (fun m2 y0 h2 hI2 => ih m2 y0 (by omega) hI2)
theorem gLoop2_eq {A0 A1 T : Type} {b : (A0 → A1 → Option T) → A0 → A1 → Option T} {r : Option T} (I : Nat → A0 → A1 → Prop) (step : ∀ (m : Nat) x0 x1 (self : A0 → A1 → Option T), I m x0 x1 → (∀ (m2 : Nat) y0 y1, m2 < m → I m2 y0 y1 → self y0 y1 = r) → b self x0 x1 = r) : ∀ (n m : Nat) x0 x1, m < n → I m x0 x1 → gLoop2 b n x0 x1 = r := by
  intro n
  induction n with
  | zero => intro m x0 x1 h; omega
  | succ n ih => intro m x0 x1 h hI; exact step m x0 x1 (gLoop2 b n) hI (fun m2 y0 y1 h2 hI2 => ih m2 y0 y1 (by omega) hI2)
theorem gLoop3_eq {A0 A1 A2 T : Type} {b : (A0 → A1 → A2 → Option T) → A0 → A1 → A2 → Option T} {r : Option T} (I : Nat → A0 → A1 → A2 → Prop) (step : ∀ (m : Nat) x0 x1 x2 (self : A0 → A1 → A2 → Option T), I m x0 x1 x2 → (∀ (m2 : Nat) y0 y1 y2, m2 < m → I m2 y0 y1 y2 → self y0 y1 y2 = r) → b self x0 x1 x2 = r) : ∀ (n m : Nat) x0 x1 x2, m < n → I m x0 x1 x2 → gLoop3 b n x0 x1 x2 = r := by
  intro n
  induction n with
  | zero => intro m x0 x1 x2 h; omega
  | succ n ih => intro m x0 x1 x2 h hI; exact step m x0 x1 x2 (gLoop3 b n) hI (fun m2 y0 y1 y2 h2 hI2 => ih m2 y0 y1 y2 (by omega) hI2)
theorem gLoop4_eq {A0 A1 A2 A3 T : Type} {b : (A0 → A1 → A2 → A3 → Option T) → A0 → A1 → A2 → A3 → Option T} {r : Option T} (I : Nat → A0 → A1 → A2 → A3 → Prop) (step : ∀ (m : Nat) x0 x1 x2 x3 (self : A0 → A1 → A2 → A3 → Option T), I m x0 x1 x2 x3 → (∀ (m2 : Nat) y0 y1 y2 y3, m2 < m → I m2 y0 y1 y2 y3 → self y0 y1 y2 y3 = r) → b self x0 x1 x2 x3 = r) : ∀ (n m : Nat) x0 x1 x2 x3, m < n → I m x0 x1 x2 x3 → gLoop4 b n x0 x1 x2 x3 = r := by
  intro n
  induction n with
  | zero => intro m x0 x1 x2 x3 h; omega
  | succ n ih => intro m x0 x1 x2 x3 h hI; exact step m x0 x1 x2 x3 (gLoop4 b n) hI (fun m2 y0 y1 y2 y3 h2 hI2 => ih m2 y0 y1 y2 y3 (by omega) hI2)
theorem gLoop5_eq {A0 A1 A2 A3 A4 T : Type} {b : (A0 → A1 → A2 → A3 → A4 → Option T) → A0 → A1 → A2 → A3 → A4 → Option T} {r : Option T} (I : Nat → A0 → A1 → A2 → A3 → A4 → Prop) (step : ∀ (m : Nat) x0 x1 x2 x3 x4 (self : A0 → A1 → A2 → A3 → A4 → Option T), I m x0 x1 x2 x3 x4 → (∀ (m2 : Nat) y0 y1 y2 y3 y4, m2 < m → I m2 y0 y1 y2 y3 y4 → self y0 y1 y2 y3 y4 = r) → b self x0 x1 x2 x3 x4 = r) : ∀ (n m : Nat) x0 x1 x2 x3 x4, m < n → I m x0 x1 x2 x3 x4 → gLoop5 b n x0 x1 x2 x3 x4 = r := by
  intro n
  induction n with
  | zero => intro m x0 x1 x2 x3 x4 h; omega
  | succ n ih => intro m x0 x1 x2 x3 x4 h hI; exact step m x0 x1 x2 x3 x4 (gLoop5 b n) hI (fun m2 y0 y1 y2 y3 y4 h2 hI2 => ih m2 y0 y1 y2 y3 y4 (by omega) hI2)
theorem gLoop6_eq {A0 A1 A2 A3 A4 A5 T : Type} {b : (A0 → A1 → A2 → A3 → A4 → A5 → Option T) → A0 → A1 → A2 → A3 → A4 → A5 → Option T} {r : Option T} (I : Nat → A0 → A1 → A2 → A3 → A4 → A5 → Prop) (step : ∀ (m : Nat) x0 x1 x2 x3 x4 x5 (self : A0 → A1 → A2 → A3 → A4 → A5 → Option T), I m x0 x1 x2 x3 x4 x5 → (∀ (m2 : Nat) y0 y1 y2 y3 y4 y5, m2 < m → I m2 y0 y1 y2 y3 y4 y5 → self y0 y1 y2 y3 y4 y5 = r) → b self x0 x1 x2 x3 x4 x5 = r) : ∀ (n m : Nat) x0 x1 x2 x3 x4 x5, m < n → I m x0 x1 x2 x3 x4 x5 → gLoop6 b n x0 x1 x2 x3 x4 x5 = r := by
  intro n
  induction n with
  | zero => intro m x0 x1 x2 x3 x4 x5 h; omega
  | succ n ih => intro m x0 x1 x2 x3 x4 x5 h hI; exact step m x0 x1 x2 x3 x4 x5 (gLoop6 b n) hI (fun m2 y0 y1 y2 y3 y4 y5 h2 hI2 => ih m2 y0 y1 y2 y3 y4 y5 (by omega) hI2)
theorem gLoop7_eq {A0 A1 A2 A3 A4 A5 A6 T : Type} {b : (A0 → A1 → A2 → A3 → A4 → A5 → A6 → Option T) → A0 → A1 → A2 → A3 → A4 → A5 → A6 → Option T} {r : Option T} (I : Nat → A0 → A1 → A2 → A3 → A4 → A5 → A6 → Prop) (step : ∀ (m : Nat) x0 x1 x2 x3 x4 x5 x6 (self : A0 → A1 → A2 → A3 → A4 → A5 → A6 → Option T), I m x0 x1 x2 x3 x4 x5 x6 → (∀ (m2 : Nat) y0 y1 y2 y3 y4 y5 y6, m2 < m → I m2 y0 y1 y2 y3 y4 y5 y6 → self y0 y1 y2 y3 y4 y5 y6 = r) → b self x0 x1 x2 x3 x4 x5 x6 = r) : ∀ (n m : Nat) x0 x1 x2 x3 x4 x5 x6, m < n → I m x0 x1 x2 x3 x4 x5 x6 → gLoop7 b n x0 x1 x2 x3 x4 x5 x6 = r := by
  intro n
  induction n with
  | zero => intro m x0 x1 x2 x3 x4 x5 x6 h; omega
  | succ n ih => intro m x0 x1 x2 x3 x4 x5 x6 h hI; exact step m x0 x1 x2 x3 x4 x5 x6 (gLoop7 b n) hI (fun m2 y0 y1 y2 y3 y4 y5 y6 h2 hI2 => ih m2 y0 y1 y2 y3 y4 y5 y6 (by omega) hI2)
