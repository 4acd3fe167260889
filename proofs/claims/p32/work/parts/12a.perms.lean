/-! ===== pure: orders of at most four, told by numbers alone ===== -/
def tab (m : Nat) : List Nat := match m with
  | 0 => [0]
  | 1 => [1]
  | 2 => [12, 21]
  | 3 => [123, 132, 213, 231, 312, 321]
  | _ => [1234, 1243, 1324, 1342, 1423, 1432, 2134, 2143, 2314, 2341, 2413, 2431, 3124, 3142, 3214, 3241, 3412, 3421, 4123, 4132, 4213, 4231, 4312, 4321]
def nT (m : Nat) : Nat := match m with
  | 0 => 1
  | 1 => 1
  | 2 => 2
  | 3 => 6
  | _ => 24
/-- which of m stands at place j in the order t -/
def pT (m t j : Nat) : Nat := ((tab m).getD t 0) / 10 ^ (m - j) % 10
theorem pT_in : ∀ m, m < 5 → ∀ t, t < nT m → ∀ j, j < m → 1 ≤ pT m t (j + 1) ∧ pT m t (j + 1) ≤ m := by decide +kernel
theorem pT_inj : ∀ m, m < 5 → ∀ t, t < nT m → ∀ i, i < m → ∀ j, j < m → pT m t (i + 1) = pT m t (j + 1) → i = j := by decide +kernel
theorem pT_sur : ∀ m, m < 5 → ∀ t, t < nT m → ∀ i, i < m → ∃ j, j < m ∧ pT m t (j + 1) = i + 1 := by decide +kernel
theorem pT_0 : ∀ m, m < 5 → ∀ j, j < m → pT m 0 (j + 1) = j + 1 := by decide +kernel
theorem pT_lex : ∀ m, m < 5 → ∀ t, t < nT m → ∀ t', t' < t → ∃ i, i < m ∧ (∀ j, j < i → pT m t' (j + 1) = pT m t (j + 1)) ∧ pT m t' (i + 1) < pT m t (i + 1) := by decide +kernel
theorem pT_cov1 : ∀ a, a < 2 → 1 ≤ a → ∃ t, t < 1 ∧ pT 1 t 1 = a := by decide +kernel
theorem pT_cov2 : ∀ a, a < 3 → ∀ b, b < 3 → (1 ≤ a ∧ 1 ≤ b ∧ ¬ a = b) → ∃ t, t < 2 ∧ (pT 2 t 1 = a ∧ pT 2 t 2 = b) := by decide +kernel
def hs3 (x : Nat) : Bool := (List.range 6).any (fun t => (pT 3 t 1 == x % 5) && ((pT 3 t 2 == x / 5 % 5) && (pT 3 t 3 == x / 25 % 5)))
def ds3 (x : Nat) : Bool := ((x % 5 == 0) || (x / 5 % 5 == 0) || (x / 25 % 5 == 0)) || ((x % 5 == 4) || (x / 5 % 5 == 4) || (x / 25 % 5 == 4)) || ((x % 5 == x / 5 % 5) || (x % 5 == x / 25 % 5) || (x / 5 % 5 == x / 25 % 5))
theorem ck3 : ∀ x, x < 125 → (ds3 x || hs3 x) = true := by decide +kernel
def hs4 (x : Nat) : Bool := (List.range 24).any (fun t => (pT 4 t 1 == x % 5) && ((pT 4 t 2 == x / 5 % 5) && ((pT 4 t 3 == x / 25 % 5) && (pT 4 t 4 == x / 125 % 5))))
def ds4 (x : Nat) : Bool := ((x % 5 == 0) || (x / 5 % 5 == 0) || (x / 25 % 5 == 0) || (x / 125 % 5 == 0)) || ((x % 5 == x / 5 % 5) || (x % 5 == x / 25 % 5) || (x % 5 == x / 125 % 5) || (x / 5 % 5 == x / 25 % 5) || (x / 5 % 5 == x / 125 % 5) || (x / 25 % 5 == x / 125 % 5))
theorem ck4 : ∀ x, x < 625 → (ds4 x || hs4 x) = true := by decide +kernel
theorem pT_cov3 {a b c : Nat} (ha : a < 4) (hb : b < 4) (hc : c < 4) (h : 1 ≤ a ∧ 1 ≤ b ∧ 1 ≤ c ∧ ¬ a = b ∧ ¬ a = c ∧ ¬ b = c) : ∃ t, t < 6 ∧ (pT 3 t 1 = a ∧ pT 3 t 2 = b ∧ pT 3 t 3 = c) := by
  have k := ck3 (a + 5 * b + 25 * c) (by omega)
  have e1 : (a + 5 * b + 25 * c) % 5 = a := by omega
  have e2 : (a + 5 * b + 25 * c) / 5 % 5 = b := by omega
  have e3 : (a + 5 * b + 25 * c) / 25 % 5 = c := by omega
  unfold ds3 hs3 at k
  rw [e1, e2, e3] at k
  simp only [Bool.or_eq_true, beq_iff_eq, List.any_eq_true, List.mem_range, Bool.and_eq_true] at k
  rcases k with k | ⟨t, k1, k2, k3, k4⟩
  · omega
  · exact ⟨t, k1, k2, k3, k4⟩
theorem pT_cov4 {a b c d : Nat} (ha : a < 5) (hb : b < 5) (hc : c < 5) (hd : d < 5) (h : 1 ≤ a ∧ 1 ≤ b ∧ 1 ≤ c ∧ 1 ≤ d ∧ ¬ a = b ∧ ¬ a = c ∧ ¬ a = d ∧ ¬ b = c ∧ ¬ b = d ∧ ¬ c = d) : ∃ t, t < 24 ∧ (pT 4 t 1 = a ∧ pT 4 t 2 = b ∧ pT 4 t 3 = c ∧ pT 4 t 4 = d) := by
  have k := ck4 (a + 5 * b + 25 * c + 125 * d) (by omega)
  have e1 : (a + 5 * b + 25 * c + 125 * d) % 5 = a := by omega
  have e2 : (a + 5 * b + 25 * c + 125 * d) / 5 % 5 = b := by omega
  have e3 : (a + 5 * b + 25 * c + 125 * d) / 25 % 5 = c := by omega
  have e4 : (a + 5 * b + 25 * c + 125 * d) / 125 % 5 = d := by omega
  unfold ds4 hs4 at k
  rw [e1, e2, e3, e4] at k
  simp only [Bool.or_eq_true, beq_iff_eq, List.any_eq_true, List.mem_range, Bool.and_eq_true] at k
  rcases k with k | ⟨t, k1, k2, k3, k4, k5⟩
  · omega
  · exact ⟨t, k1, k2, k3, k4, k5⟩
/-- a row whose middle is among those of b, without one twice, is one of the orders -/
theorem cover {m : Nat} (hm : m < 5) {o b : Nat → Int32} (h : ∀ j, j < m → ∃ i, i < m ∧ o (j + 1) = b (i + 1)) (hi : ∀ i j, i < m → j < m → o (i + 1) = o (j + 1) → i = j) : ∃ t, t < nT m ∧ ∀ j, j < m → o (j + 1) = b (pT m t (j + 1)) := by
  match m, hm with
  | 0, _ => exact ⟨0, by decide, fun j hj => by omega⟩
  | 1, _ =>
    obtain ⟨a, a1, a2⟩ := h 0 (by omega)
    obtain ⟨t, t1, t2⟩ := pT_cov1 (a + 1) (by omega) (by omega)
    refine ⟨t, t1, fun j hj => ?_⟩
    rw [show j = 0 by omega, t2]
    exact a2
  | 2, _ =>
    obtain ⟨a, a1, a2⟩ := h 0 (by omega)
    obtain ⟨b', b1, b2⟩ := h 1 (by omega)
    have n1 : a + 1 ≠ b' + 1 := fun e => by
      have := hi 0 1 (by omega) (by omega) (by rw [a2, b2, e])
      omega
    obtain ⟨t, t1, t2, t3⟩ := pT_cov2 (a + 1) (by omega) (b' + 1) (by omega) ⟨by omega, by omega, n1⟩
    refine ⟨t, t1, fun j hj => ?_⟩
    match j, hj with
    | 0, _ => rw [t2]; exact a2
    | 1, _ => rw [t3]; exact b2
  | 3, _ =>
    obtain ⟨a, a1, a2⟩ := h 0 (by omega)
    obtain ⟨b', b1, b2⟩ := h 1 (by omega)
    obtain ⟨c, c1, c2⟩ := h 2 (by omega)
    have n1 : a + 1 ≠ b' + 1 := fun e => by
      have := hi 0 1 (by omega) (by omega) (by rw [a2, b2, e])
      omega
    have n2 : a + 1 ≠ c + 1 := fun e => by
      have := hi 0 2 (by omega) (by omega) (by rw [a2, c2, e])
      omega
    have n3 : b' + 1 ≠ c + 1 := fun e => by
      have := hi 1 2 (by omega) (by omega) (by rw [b2, c2, e])
      omega
    obtain ⟨t, t1, t2, t3, t4⟩ := pT_cov3 (a := a + 1) (b := b' + 1) (c := c + 1) (by omega) (by omega) (by omega) ⟨by omega, by omega, by omega, n1, n2, n3⟩
    refine ⟨t, t1, fun j hj => ?_⟩
    match j, hj with
    | 0, _ => rw [t2]; exact a2
    | 1, _ => rw [t3]; exact b2
    | 2, _ => rw [t4]; exact c2
  | 4, _ =>
    obtain ⟨a, a1, a2⟩ := h 0 (by omega)
    obtain ⟨b', b1, b2⟩ := h 1 (by omega)
    obtain ⟨c, c1, c2⟩ := h 2 (by omega)
    obtain ⟨d, d1, d2⟩ := h 3 (by omega)
    have n1 : a + 1 ≠ b' + 1 := fun e => by
      have := hi 0 1 (by omega) (by omega) (by rw [a2, b2, e])
      omega
    have n2 : a + 1 ≠ c + 1 := fun e => by
      have := hi 0 2 (by omega) (by omega) (by rw [a2, c2, e])
      omega
    have n3 : a + 1 ≠ d + 1 := fun e => by
      have := hi 0 3 (by omega) (by omega) (by rw [a2, d2, e])
      omega
    have n4 : b' + 1 ≠ c + 1 := fun e => by
      have := hi 1 2 (by omega) (by omega) (by rw [b2, c2, e])
      omega
    have n5 : b' + 1 ≠ d + 1 := fun e => by
      have := hi 1 3 (by omega) (by omega) (by rw [b2, d2, e])
      omega
    have n6 : c + 1 ≠ d + 1 := fun e => by
      have := hi 2 3 (by omega) (by omega) (by rw [c2, d2, e])
      omega
    obtain ⟨t, t1, t2, t3, t4, t5⟩ := pT_cov4 (a := a + 1) (b := b' + 1) (c := c + 1) (d := d + 1) (by omega) (by omega) (by omega) (by omega) ⟨by omega, by omega, by omega, by omega, n1, n2, n3, n4, n5, n6⟩
    refine ⟨t, t1, fun j hj => ?_⟩
    match j, hj with
    | 0, _ => rw [t2]; exact a2
    | 1, _ => rw [t3]; exact b2
    | 2, _ => rw [t4]; exact c2
    | 3, _ => rw [t5]; exact d2
/-- the next order -/
def tF (p : Nat → Nat) : Nat → Nat
  | 0 => 0
  | k + 1 => if p (k + 1) ≤ p (k + 2) then k + 1 else tF p k
def gF (p : Nat → Nat) (t : Nat) : Nat → Nat
  | 0 => 0
  | k + 1 => if k + 1 ≤ t then k + 1 else if p t ≤ p (k + 1) then k + 1 else gF p t k
def swp {A : Type} (p : Nat → A) (i j : Nat) : Nat → A := fun x => if x = j then p i else if x = i then p j else p x
def nxF (m : Nat) (p : Nat → Nat) : Nat → Nat := if tF p (m - 1) + 1 < m then swp (swp p (tF p (m - 1)) (gF p (tF p (m - 1)) m)) (tF p (m - 1) + 1) m else swp p (tF p (m - 1)) (gF p (tF p (m - 1)) m)
theorem next_p : ∀ m, m < 5 → ∀ t, t < nT m → t + 1 < nT m → (1 ≤ tF (pT m t) (m - 1) ∧ tF (pT m t) (m - 1) < m) ∧ (tF (pT m t) (m - 1) < gF (pT m t) (tF (pT m t) (m - 1)) m ∧ gF (pT m t) (tF (pT m t) (m - 1)) m ≤ m) ∧ ∀ j, j < m → nxF m (pT m t) (j + 1) = pT m (t + 1) (j + 1) := by decide +kernel
theorem last_p : ∀ m, m < 5 → ∀ t, t < nT m → ¬ t + 1 < nT m → tF (pT m t) (m - 1) = 0 := by decide +kernel
/-- the reference's codes -/
def bitF (m d : Nat) : Int32 := if 1 ≤ d ∧ d ≤ m then 1 <<< (Int32.ofNat d &&& 31) else 0
def snF (m x : Nat) : Nat → Int32
  | 0 => 0
  | n + 1 => snF m x n ||| bitF m (x / 6 ^ n % 6)
def flF (m : Nat) : Int32 := (1 <<< (Int32.ofNat (m + 1) &&& 31)) - 2
theorem code_ok2 : ∀ x, x < 36 → snF 2 x 2 = flF 2 → ∃ t, t < 2 ∧ ∀ j, j < 2 → x / 6 ^ (2 - (j + 1)) % 6 = pT 2 t (j + 1) := by decide +kernel
theorem code_ok3 : ∀ x, x < 216 → snF 3 x 3 = flF 3 → ∃ t, t < 6 ∧ ∀ j, j < 3 → x / 6 ^ (3 - (j + 1)) % 6 = pT 3 t (j + 1) := by decide +kernel
theorem code_ok4 : ∀ x, x < 1296 → snF 4 x 4 = flF 4 → ∃ t, t < 24 ∧ ∀ j, j < 4 → x / 6 ^ (4 - (j + 1)) % 6 = pT 4 t (j + 1) := by decide +kernel
theorem code_ex2 : ∀ t, t < 2 → ∃ x, x < 36 ∧ snF 2 x 2 = flF 2 ∧ ∀ j, j < 2 → x / 6 ^ (2 - (j + 1)) % 6 = pT 2 t (j + 1) := by decide +kernel
theorem code_ex3 : ∀ t, t < 6 → ∃ x, x < 216 ∧ snF 3 x 3 = flF 3 ∧ ∀ j, j < 3 → x / 6 ^ (3 - (j + 1)) % 6 = pT 3 t (j + 1) := by decide +kernel
theorem code_ex4 : ∀ t, t < 24 → ∃ x, x < 1296 ∧ snF 4 x 4 = flF 4 ∧ ∀ j, j < 4 → x / 6 ^ (4 - (j + 1)) % 6 = pT 4 t (j + 1) := by decide +kernel
