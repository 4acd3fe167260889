/-! ===== pure: lines, told by numbers alone: two namings of the same lines ===== -/
/-- how many numbers below n have p -/
noncomputable def cnt (p : Nat → Prop) : Nat → Nat
  | 0 => 0
  | n + 1 => cnt p n + (@ite Nat (p n) (Classical.propDecidable (p n)) 1 0)
theorem cnt_pos {p : Nat → Prop} {n : Nat} (h : p n) : cnt p (n + 1) = cnt p n + 1 := by
  show cnt p n + _ = _
  rw [if_pos h]
theorem cnt_neg {p : Nat → Prop} {n : Nat} (h : ¬ p n) : cnt p (n + 1) = cnt p n := by
  show cnt p n + _ = _
  rw [if_neg h, Nat.add_zero]
theorem cnt_congr {p q : Nat → Prop} : ∀ n : Nat, (∀ k, k < n → (p k ↔ q k)) → cnt p n = cnt q n := by
  intro n
  induction n with
  | zero => intro _; rfl
  | succ n ih =>
    intro h
    have e := ih (fun k hk => h k (by omega))
    by_cases hp : p n
    · rw [cnt_pos hp, cnt_pos ((h n (by omega)).mp hp), e]
    · rw [cnt_neg hp, cnt_neg (fun g => hp ((h n (by omega)).mpr g)), e]
theorem cnt_le {p : Nat → Prop} : ∀ n : Nat, cnt p n ≤ n := by
  intro n
  induction n with
  | zero => exact Nat.le_refl _
  | succ n ih =>
    by_cases hp : p n
    · rw [cnt_pos hp]; omega
    · rw [cnt_neg hp]; omega
/-- one more -/
theorem cnt_add {p q : Nat → Prop} {r : Nat} (hr : ¬ p r) (hq : ∀ k, q k ↔ (p k ∨ k = r)) : ∀ n : Nat, cnt q n = cnt p n + (if r < n then 1 else 0) := by
  intro n
  induction n with
  | zero => rfl
  | succ n ih =>
    by_cases hn : n = r
    · subst hn
      rw [cnt_pos ((hq n).mpr (Or.inr rfl)), cnt_neg hr, ih, if_neg (by omega), if_pos (by omega)]
    · by_cases hp : p n
      · rw [cnt_pos ((hq n).mpr (Or.inl hp)), cnt_pos hp, ih]
        by_cases h : r < n
        · rw [if_pos h, if_pos (by omega)]
        · rw [if_neg h, if_neg (by omega)]
      · rw [cnt_neg (fun g => ((hq n).mp g).elim hp hn), cnt_neg hp, ih]
        by_cases h : r < n
        · rw [if_pos h, if_pos (by omega)]
        · rw [if_neg h, if_neg (by omega)]
theorem cnt_zero {p : Nat → Prop} {n : Nat} (h : cnt p n = 0) : ∀ k, k < n → ¬ p k := by
  induction n with
  | zero => intro k hk; omega
  | succ n ih =>
    intro k hk hp
    by_cases hn : p n
    · rw [cnt_pos hn] at h; omega
    · rw [cnt_neg hn] at h
      by_cases e : k = n
      · subst e; exact hn hp
      · exact ih h k (by omega) hp
theorem cnt_ne {p : Nat → Prop} {n k : Nat} (hk : k < n) (h : p k) : 0 < cnt p n := by
  rcases Nat.eq_zero_or_pos (cnt p n) with e | e
  · exact absurd h (cnt_zero e k hk)
  · exact e
/-- the names in use, of the lines that have Q, are as many as the lines' first gaps -/
theorem classes {G Q : Nat → Prop} {f : Nat → Nat} {N : Nat} : ∀ n : Nat, (∀ i, i < n → G i → f i < N) → (∀ i j, i < n → j < n → G i → G j → f i = f j → (Q i ↔ Q j)) → cnt (fun r => ∃ i, i < n ∧ G i ∧ f i = r ∧ Q i) N = cnt (fun i => G i ∧ Q i ∧ ∀ j, j < i → G j → f j ≠ f i) n := by
  intro n
  induction n with
  | zero =>
    intro _ _
    have : cnt (fun r => ∃ i, i < 0 ∧ G i ∧ f i = r ∧ Q i) N = cnt (fun _ => False) N := cnt_congr N (fun k _ => ⟨fun ⟨i, h, _⟩ => by omega, fun h => h.elim⟩)
    rw [this]
    have z : ∀ n : Nat, cnt (fun _ => False) n = 0 := by
      intro n
      induction n with
      | zero => rfl
      | succ n ih => rw [cnt_neg (fun h => h), ih]
    exact z N
  | succ n ih =>
    intro hf hQ
    have e := ih (fun i hi => hf i (by omega)) (fun i j hi hj => hQ i j (by omega) (by omega))
    by_cases h : G n ∧ Q n ∧ ∀ j, j < n → G j → f j ≠ f n
    · rw [cnt_pos h, ← e]
      have := cnt_add (p := fun r => ∃ i, i < n ∧ G i ∧ f i = r ∧ Q i) (q := fun r => ∃ i, i < n + 1 ∧ G i ∧ f i = r ∧ Q i) (r := f n) (fun ⟨i, h1, h2, h3, _⟩ => h.2.2 i h1 h2 h3) (fun k => ⟨fun ⟨i, h1, h2, h3, h4⟩ => by
        by_cases hi : i = n
        · subst hi; exact Or.inr h3.symm
        · exact Or.inl ⟨i, by omega, h2, h3, h4⟩, fun g => g.elim (fun ⟨i, h1, h2, h3, h4⟩ => ⟨i, by omega, h2, h3, h4⟩) (fun g => ⟨n, by omega, h.1, g.symm, h.2.1⟩)⟩) N
      rw [this, if_pos (hf n (by omega) h.1)]
    · rw [cnt_neg h, ← e]
      refine cnt_congr N (fun r _ => ⟨fun ⟨i, h1, h2, h3, h4⟩ => ?_, fun ⟨i, h1, h2, h3, h4⟩ => ⟨i, by omega, h2, h3, h4⟩⟩)
      by_cases hi : i = n
      · subst hi
        have : ∃ j, j < i ∧ G j ∧ f j = f i := by
          refine Classical.byContradiction (fun g => h ⟨h2, h4, fun j hj hG he => g ⟨j, hj, hG, he⟩⟩)
        obtain ⟨j, hj, hG, he⟩ := this
        exact ⟨j, hj, hG, he.trans h3, (hQ j i (by omega) (by omega) hG h2 he).mpr h4⟩
      · exact ⟨i, by omega, h2, h3, h4⟩
/-- two namings of the same lines have as many names in use -/
theorem classes2 {G Q : Nat → Prop} {f g : Nat → Nat} {N n : Nat} (hf : ∀ i, i < n → G i → f i < N) (hg : ∀ i, i < n → G i → g i < N) (hk : ∀ i j, i < n → j < n → G i → G j → (f i = f j ↔ g i = g j)) (hQ : ∀ i j, i < n → j < n → G i → G j → f i = f j → (Q i ↔ Q j)) : cnt (fun r => ∃ i, i < n ∧ G i ∧ f i = r ∧ Q i) N = cnt (fun r => ∃ i, i < n ∧ G i ∧ g i = r ∧ Q i) N := by
  rw [classes n hf hQ, classes n hg (fun i j hi hj h1 h2 h3 => hQ i j hi hj h1 h2 ((hk i j hi hj h1 h2).mpr h3))]
  refine cnt_congr n (fun i hi => ⟨fun ⟨a, b, c⟩ => ⟨a, b, fun j hj hG he => c j hj hG ((hk j i (by omega) hi hG a).mpr he)⟩, fun ⟨a, b, c⟩ => ⟨a, b, fun j hj hG he => c j hj hG ((hk j i (by omega) hi hG a).mp he)⟩⟩)
/-! the class's leaders -/
def walk (L : Nat → Nat) : Nat → Nat → Nat
  | 0, i => i
  | n + 1, i => walk L n (L i)
theorem walk_fix {L : Nat → Nat} {i : Nat} (h : L i = i) : ∀ n : Nat, walk L n i = i := by
  intro n
  induction n with
  | zero => rfl
  | succ n ih => show walk L n (L i) = i; rw [h, ih]
theorem walk_add {L : Nat → Nat} : ∀ (n m i : Nat), walk L (n + m) i = walk L m (walk L n i) := by
  intro n
  induction n with
  | zero => intro m i; rw [Nat.zero_add]; rfl
  | succ n ih =>
    intro m i
    rw [show n + 1 + m = n + m + 1 by omega]
    exact ih m (L i)
def updN (L : Nat → Nat) (a b : Nat) : Nat → Nat := fun j => if j = a then b else L j
theorem walk_join {L : Nat → Nat} {a b : Nat} (ha : L a = a) (hb : L b = b) : ∀ (n i r : Nat), walk L n i = r → L r = r → walk (updN L a b) (n + 1) i = (if r = a then b else r) := by
  have hfix : updN L a b b = b := by
    unfold updN
    split
    · rfl
    · exact hb
  intro n
  induction n with
  | zero =>
    intro i r h hr
    have h : i = r := h
    subst h
    show updN L a b i = _
    unfold updN
    by_cases e : i = a
    · rw [if_pos e]; subst e; rw [if_pos rfl]
    · rw [if_neg e, if_neg e, hr]
  | succ n ih =>
    intro i r h hr
    show walk (updN L a b) (n + 1) (updN L a b i) = _
    by_cases e : i = a
    · subst e
      rw [walk_fix ha] at h
      subst h
      rw [show updN L i b i = b from if_pos rfl, if_pos rfl]
      exact walk_fix hfix _
    · rw [show updN L a b i = L i from if_neg e]
      exact ih (L i) r h hr
/-- the leaders: gaps lead to gaps, and in d steps to one that leads itself -/
def Forest (G : Nat → Prop) (L : Nat → Nat) (d : Nat) : Prop := (∀ i, G i → G (L i)) ∧ ∀ i, G i → L (walk L d i) = walk L d i
theorem walk_G {G : Nat → Prop} {L : Nat → Nat} (h : ∀ i, G i → G (L i)) : ∀ n i, G i → G (walk L n i) := by
  intro n
  induction n with
  | zero => intro i hi; exact hi
  | succ n ih => intro i hi; exact ih _ (h i hi)
theorem walk_more {L : Nat → Nat} {d e i : Nat} (h : L (walk L d i) = walk L d i) (he : d ≤ e) : walk L e i = walk L d i := by
  rw [show e = d + (e - d) by omega, walk_add, walk_fix h]
theorem forest_join {G : Nat → Prop} {L : Nat → Nat} {d a b : Nat} (h : Forest G L d) (ha : G a) (hb : G b) : Forest G (updN L (walk L d a) (walk L d b)) (d + 1) ∧ ∀ i, G i → walk (updN L (walk L d a) (walk L d b)) (d + 1) i = (if walk L d i = walk L d a then walk L d b else walk L d i) := by
  have w : ∀ i, G i → walk (updN L (walk L d a) (walk L d b)) (d + 1) i = (if walk L d i = walk L d a then walk L d b else walk L d i) := fun i hi => walk_join (h.2 a ha) (h.2 b hb) d i _ rfl (h.2 i hi)
  refine ⟨⟨fun i hi => ?_, fun i hi => ?_⟩, w⟩
  · unfold updN
    split
    · exact walk_G h.1 d b hb
    · exact h.1 i hi
  · rw [w i hi]
    unfold updN
    by_cases e : walk L d i = walk L d a
    · rw [if_pos e]
      split
      · rfl
      · exact h.2 b hb
    · rw [if_neg e, if_neg e]
      exact h.2 i hi
/-- the same lines under both namings -/
def Kern (G : Nat → Prop) (f g : Nat → Nat) : Prop := ∀ i j, G i → G j → (f i = f j ↔ g i = g j)
theorem kern_join {G : Nat → Prop} {f g f' g' : Nat → Nat} {a b : Nat} (h : Kern G f g) (ha : G a) (hb : G b) (hf : ∀ i, G i → f' i = if f i = f a then f b else f i) (hg : (∀ i, G i → g' i = if g i = g b then g a else g i) ∨ (∀ i, G i → g' i = if g i = g a then g b else g i)) : Kern G f' g' := by
  intro i j hi hj
  rw [hf i hi, hf j hj]
  have a1 := h i a hi ha
  have a2 := h i b hi hb
  have a3 := h j a hj ha
  have a4 := h j b hj hb
  have a5 := h a b ha hb
  have a6 := h i j hi hj
  rcases hg with hg | hg <;> rw [hg i hi, hg j hj] <;> by_cases b1 : f i = f a <;> by_cases b2 : f j = f a <;> by_cases b3 : f i = f b <;> by_cases b4 : f j = f b <;> simp_all <;> omega
