/-! ===== pure: the race, said once for both sides ===== -/
def cor (τ : gSt) : Nat → Nat → Int32 := fun r => if r ≤ 11 then τ.1 r else fun _ => 0
theorem cor_at {τ : gSt} {r : Nat} (h : r ≤ 11) : cor τ r = τ.1 r := if_pos h
theorem cor_km {τ τ' : gSt} (h : Km τ τ') : cor τ' = cor τ := by
  funext r
  unfold cor
  by_cases c : r ≤ 11
  · rw [if_pos c, if_pos c, h.1 r c]
  · rw [if_neg c, if_neg c]
/-- the runner's class, how long its course is, how many punches; its course; whether its controls have failed -/
def kL (A : Nat → Nat → Int32) (i : Nat) : Nat := (A 6 i).toInt.toNat
def lL (A : Nat → Nat → Int32) (i : Nat) : Nat := (A 5 (kL A i)).toInt.toNat
def pR (A : Nat → Nat → Int32) (i : Nat) : Nat := (A 11 i).toInt.toNat
def cR (A : Nat → Nat → Int32) (i j : Nat) : Int32 := A 4 (6 * kL A i + j)
def fR (A : Nat → Nat → Int32) (i j : Nat) : Int32 := A 3 (cR A i j).toInt.toNat
def skp (A : Nat → Nat → Int32) (i : Nat) : Nat → Nat → Nat
  | 0, j => j
  | f + 1, j => if fR A i j = 0 then j else skp A i f (j + 1)
/-- the next that has not failed -/
def sk (A : Nat → Nat → Int32) (i j : Nat) : Nat := skp A i (lL A i - j) j
theorem sk_end {A : Nat → Nat → Int32} {i j : Nat} (h : lL A i ≤ j) : sk A i j = j := by
  unfold sk
  rw [show lL A i - j = 0 by omega]
  rfl
theorem sk_ok {A : Nat → Nat → Int32} {i j : Nat} (h : j < lL A i) (hf : fR A i j = 0) : sk A i j = j := by
  unfold sk
  rw [show lL A i - j = (lL A i - j - 1) + 1 by omega]
  exact if_pos hf
theorem sk_go {A : Nat → Nat → Int32} {i j : Nat} (h : j < lL A i) (hf : ¬ fR A i j = 0) : sk A i j = sk A i (j + 1) := by
  unfold sk
  rw [show lL A i - j = (lL A i - (j + 1)) + 1 by omega]
  exact if_neg hf
theorem sk_all {A : Nat → Nat → Int32} {i : Nat} : ∀ (m j : Nat), m = lL A i - j → j ≤ lL A i → j ≤ sk A i j ∧ sk A i j ≤ lL A i ∧ (∀ x, j ≤ x → x < sk A i j → ¬ fR A i x = 0) ∧ (sk A i j < lL A i → fR A i (sk A i j) = 0) := by
  intro m
  induction m with
  | zero =>
    intro j hm hj
    rw [sk_end (by omega)]
    exact ⟨by omega, hj, fun x h1 h2 => by omega, fun h => by omega⟩
  | succ m ih =>
    intro j hm hj
    by_cases hf : fR A i j = 0
    · rw [sk_ok (by omega) hf]
      exact ⟨by omega, hj, fun x h1 h2 => by omega, fun _ => hf⟩
    · rw [sk_go (by omega) hf]
      obtain ⟨a, b, c, d⟩ := ih (j + 1) (by omega) (by omega)
      refine ⟨by omega, b, fun x h1 h2 => ?_, d⟩
      by_cases e : x = j
      · rw [e]; exact hf
      · exact c x (by omega) h2
/-- behind k punches: the next that counts, the minutes, how many counted -/
def thr (A : Nat → Nat → Int32) (i : Nat) : Nat → Nat × (Nat → Int32) × Nat
  | 0 => (sk A i 1, upd (fun _ => -1) 0 (A 8 i), 0)
  | k + 1 => if (thr A i k).1 < lL A i ∧ A 9 (20 * i + k) = cR A i (thr A i k).1 then (sk A i ((thr A i k).1 + 1), upd (thr A i k).2.1 (thr A i k).1 (A 10 (20 * i + k)), (thr A i k).2.2 + 1) else thr A i k
/-- what is known of a runner -/
def RF (A : Nat → Nat → Int32) (i : Nat) : Prop := (A 6 i).toInt = kL A i ∧ kL A i < 5 ∧ (A 5 (kL A i)).toInt = lL A i ∧ 2 ≤ lL A i ∧ lL A i ≤ 6 ∧ (∀ j, j < lL A i → 0 ≤ (cR A i j).toInt ∧ (cR A i j).toInt < 12) ∧ (∀ j j', j < j' → j' < lL A i → cR A i j ≠ cR A i j') ∧ (∀ k, A 3 k = 0 ∨ A 3 k = 1) ∧ (A 11 i).toInt = pR A i ∧ pR A i ≤ 20 ∧ (∀ k, k < pR A i → 0 ≤ (A 9 (20 * i + k)).toInt ∧ (A 8 i).toInt ≤ (A 10 (20 * i + k)).toInt ∧ (A 10 (20 * i + k)).toInt ≤ 9999) ∧ (∀ k k', k < k' → k' < pR A i → (A 10 (20 * i + k)).toInt ≤ (A 10 (20 * i + k')).toInt) ∧ ((A 8 i = -1 ∧ pR A i = 0) ∨ (0 ≤ (A 8 i).toInt ∧ (A 8 i).toInt ≤ 230))
theorem RF_of {τ : gSt} (hI : Inv τ) {i : Nat} (h : (i : Int) < (τ.2 3).toInt) : RF (cor τ) i := by
  obtain ⟨iT, iC, iV, iE, iS, iP⟩ := hI
  have q3 : cor τ 3 = τ.1 3 := cor_at (by decide)
  have q4 : cor τ 4 = τ.1 4 := cor_at (by decide)
  have q5 : cor τ 5 = τ.1 5 := cor_at (by decide)
  have q6 : cor τ 6 = τ.1 6 := cor_at (by decide)
  have q8 : cor τ 8 = τ.1 8 := cor_at (by decide)
  have q9 : cor τ 9 = τ.1 9 := cor_at (by decide)
  have q10 : cor τ 10 = τ.1 10 := cor_at (by decide)
  have q11 : cor τ 11 = τ.1 11 := cor_at (by decide)
  have i24 : i < 24 := by have := iE.2.1; omega
  obtain ⟨e1, e2, e3⟩ := iE.2.2.1 i h
  have hk : kL (cor τ) i = (τ.1 6 i).toInt.toNat := by unfold kL; rw [q6]
  have hk5 : (τ.1 6 i).toInt.toNat < 5 := by omega
  obtain ⟨l1, l2⟩ := iV.1 (τ.1 6 i).toInt.toNat
  have hl : lL (cor τ) i = (τ.1 5 (τ.1 6 i).toInt.toNat).toInt.toNat := by unfold lL; rw [hk, q5]
  have hp : pR (cor τ) i = (τ.1 11 i).toInt.toNat := by unfold pR; rw [q11]
  have hc : ∀ j, cR (cor τ) i j = τ.1 4 (6 * (τ.1 6 i).toInt.toNat + j) := fun j => by unfold cR; rw [hk, q4]
  obtain ⟨p1, p2⟩ := iP.1 i
  unfold RF
  rw [hl, hp, hk, q3, q5, q6, q8, q9, q10, q11]
  refine ⟨by omega, hk5, by omega, by omega, by omega, fun j hj => ?_, fun j j' h1 h2 => ?_, iC.2.2.2, by omega, by omega, fun k hk => ?_, fun k k' h1 h2 => ?_, ?_⟩
  · rw [hc j]
    have := iV.2.1 _ j hk5 (by omega)
    have := iC.2.1
    omega
  · rw [hc j, hc j']
    exact iV.2.2 _ j j' hk5 h1 (by omega)
  · obtain ⟨a, b, c, d⟩ := iP.2.2.1 i k i24 (by omega)
    exact ⟨a, c, d⟩
  · exact iP.2.2.2 i k k' i24 h1 (by omega)
  · rcases iS.1 with g | g
    · exact Or.inl ⟨iS.2.2.1 g i i24, by rw [iP.2.1 g i, tl0]; rfl⟩
    · exact Or.inr (iS.2.2.2 g i h)
/-- what is known behind k punches -/
def TF (A : Nat → Nat → Int32) (i k : Nat) (t : Nat × (Nat → Int32) × Nat) : Prop := (1 ≤ t.1 ∧ t.1 ≤ lL A i) ∧ t.2.1 0 = A 8 i ∧ (∀ j, 1 ≤ j → t.2.1 j = -1 ∨ (j < t.1 ∧ fR A i j = 0 ∧ (A 8 i).toInt ≤ (t.2.1 j).toInt ∧ (t.2.1 j).toInt ≤ 9999 ∧ 0 ≤ (t.2.1 j).toInt)) ∧ (∀ j, 1 ≤ j → j < t.1 → fR A i j = 0 → t.2.1 j ≠ -1) ∧ (∀ j j', j < j' → t.2.1 j ≠ -1 → t.2.1 j' ≠ -1 → (t.2.1 j).toInt ≤ (t.2.1 j').toInt) ∧ (∀ j, 1 ≤ j → t.2.1 j ≠ -1 → ∀ k', k ≤ k' → k' < pR A i → (t.2.1 j).toInt ≤ (A 10 (20 * i + k')).toInt) ∧ t.2.2 ≤ k ∧ (t.1 < lL A i → fR A i t.1 = 0)
theorem TF_thr {A : Nat → Nat → Int32} {i : Nat} (hA : RF A i) : ∀ k, k ≤ pR A i → TF A i k (thr A i k) := by
  obtain ⟨r1, r2, r3, r4, r5, r6, r7, r8, r9, r10, r11, r12, r13⟩ := hA
  intro k
  induction k with
  | zero =>
    intro _
    obtain ⟨a, b, c, d⟩ := sk_all (A := A) (i := i) _ 1 rfl (by omega)
    have e : ∀ j, 1 ≤ j → upd (fun _ => -1) 0 (A 8 i) j = -1 := fun j hj => by rw [upd_at, if_neg (by omega)]
    refine ⟨⟨a, b⟩, ?_, fun j hj => Or.inl (e j hj), fun j h1 h2 h3 => absurd h3 (c j h1 h2), fun j j' h1 _ h3 => absurd (e j' (by omega)) h3, fun j h1 h2 => absurd (e j h1) h2, Nat.le_refl _, d⟩
    show upd (fun _ => -1) 0 (A 8 i) 0 = A 8 i
    rw [upd_at, if_pos rfl]
  | succ k ih =>
    intro hk
    have T := ih (by omega)
    show TF A i (k + 1) (if (thr A i k).1 < lL A i ∧ A 9 (20 * i + k) = cR A i (thr A i k).1 then (sk A i ((thr A i k).1 + 1), upd (thr A i k).2.1 (thr A i k).1 (A 10 (20 * i + k)), (thr A i k).2.2 + 1) else thr A i k)
    obtain ⟨⟨t1, t2⟩, t3, t4, t5, t6, t7, t8, t9⟩ := T
    by_cases c : (thr A i k).1 < lL A i ∧ A 9 (20 * i + k) = cR A i (thr A i k).1
    · rw [if_pos c]
      generalize thr A i k = t at *
      obtain ⟨s1, s2, s3, s4⟩ := sk_all (A := A) (i := i) _ (t.1 + 1) rfl (by omega)
      obtain ⟨q1, q2, q3⟩ := r11 k (by omega)
      have q0 : 0 ≤ (A 10 (20 * i + k)).toInt := by
        rcases r13 with g | g
        · have := g.2; omega
        · omega
      have qm : A 10 (20 * i + k) ≠ -1 := fun e => by rw [e, tlm1] at q0; omega
      have en : upd t.2.1 t.1 (A 10 (20 * i + k)) t.1 = A 10 (20 * i + k) := by rw [upd_at, if_pos rfl]
      have eo : ∀ j, j ≠ t.1 → upd t.2.1 t.1 (A 10 (20 * i + k)) j = t.2.1 j := fun j hj => by rw [upd_at, if_neg hj]
      refine ⟨⟨by omega, s2⟩, ?_, fun j hj => ?_, fun j h1 h2 h3 => ?_, fun j j' h1 h2 h3 => ?_, fun j h1 h2 k' h3 h4 => ?_, by show t.2.2 + 1 ≤ k + 1; omega, s4⟩
      · show upd t.2.1 t.1 (A 10 (20 * i + k)) 0 = A 8 i
        rw [eo 0 (by omega)]
        exact t3
      · show upd t.2.1 t.1 (A 10 (20 * i + k)) j = -1 ∨ (j < sk A i (t.1 + 1) ∧ fR A i j = 0 ∧ (A 8 i).toInt ≤ (upd t.2.1 t.1 (A 10 (20 * i + k)) j).toInt ∧ (upd t.2.1 t.1 (A 10 (20 * i + k)) j).toInt ≤ 9999 ∧ 0 ≤ (upd t.2.1 t.1 (A 10 (20 * i + k)) j).toInt)
        by_cases e : j = t.1
        · rw [e, en]
          exact Or.inr ⟨by omega, t9 c.1, q2, q3, q0⟩
        · rw [eo j e]
          rcases t4 j hj with g | ⟨g, g2⟩
          · exact Or.inl g
          · exact Or.inr ⟨by omega, g2⟩
      · show upd t.2.1 t.1 (A 10 (20 * i + k)) j ≠ -1
        by_cases e : j = t.1
        · rw [e, en]
          exact qm
        · rw [eo j e]
          by_cases e2 : j < t.1
          · exact t5 j h1 e2 h3
          · exact absurd h3 (s3 j (by omega) h2)
      · show (upd t.2.1 t.1 (A 10 (20 * i + k)) j).toInt ≤ (upd t.2.1 t.1 (A 10 (20 * i + k)) j').toInt
        have h2' : upd t.2.1 t.1 (A 10 (20 * i + k)) j ≠ -1 := h2
        have h3' : upd t.2.1 t.1 (A 10 (20 * i + k)) j' ≠ -1 := h3
        by_cases e : j' = t.1
        · rw [eo j (by omega)] at h2' ⊢
          rw [e, en]
          by_cases e0 : j = 0
          · rw [e0, t3]
            exact q2
          · exact t7 j (by omega) h2' k (Nat.le_refl _) (by omega)
        · rw [eo j' e] at h3' ⊢
          by_cases e2 : j = t.1
          · rcases t4 j' (by omega) with g | ⟨g, _⟩
            · exact absurd g h3'
            · omega
          · rw [eo j e2] at h2' ⊢
            exact t6 j j' h1 h2' h3'
      · show (upd t.2.1 t.1 (A 10 (20 * i + k)) j).toInt ≤ _
        have h2' : upd t.2.1 t.1 (A 10 (20 * i + k)) j ≠ -1 := h2
        by_cases e : j = t.1
        · rw [e, en]
          exact r12 k k' (by omega) h4
        · rw [eo j e] at h2' ⊢
          exact t7 j h1 h2' k' (by omega) h4
    · rw [if_neg c]
      exact ⟨⟨t1, t2⟩, t3, t4, t5, t6, fun j h1 h2 k' h3 h4 => t7 j h1 h2 k' (by omega) h4, by omega, t9⟩
def nX (A : Nat → Nat → Int32) (i : Nat) : Nat := (thr A i (pR A i)).1
def aT (A : Nat → Nat → Int32) (i : Nat) : Nat → Int32 := (thr A i (pR A i)).2.1
def cT (A : Nat → Nat → Int32) (i : Nat) : Nat := (thr A i (pR A i)).2.2
/-- 2, if one of the first k punches is of the finish -/
def hpF (A : Nat → Nat → Int32) (i : Nat) : Nat → Int32
  | 0 => 0
  | k + 1 => if A 9 (20 * i + k) = cR A i (lL A i - 1) then 2 else hpF A i k
/-- the state, whether a leg is void, the split, the total -/
def stF (A : Nat → Nat → Int32) (i : Nat) : Int32 := if lL A i ≤ nX A i then 1 else hpF A i (pR A i)
def vo (A : Nat → Nat → Int32) (i g : Nat) : Int32 := if fR A i g = 0 then if fR A i (g + 1) = 0 then 0 else 1 else 1
def spl (A : Nat → Nat → Int32) (i g : Nat) : Int32 := if vo A i g = 0 then if aT A i g = -1 then -1 else if aT A i (g + 1) = -1 then -1 else aT A i (g + 1) - aT A i g else -1
def tsum (A : Nat → Nat → Int32) (i : Nat) : Nat → Int32
  | 0 => 0
  | m + 1 => tsum A i m + (if spl A i m = -1 then 0 else spl A i m)
def tot (A : Nat → Nat → Int32) (i : Nat) : Int32 := if stF A i = 1 then tsum A i (lL A i - 1) else -1
theorem hpF_or (A : Nat → Nat → Int32) (i : Nat) : ∀ k, hpF A i k = 0 ∨ hpF A i k = 2 := by
  intro k
  induction k with
  | zero => exact Or.inl rfl
  | succ k ih =>
    show (if A 9 (20 * i + k) = cR A i (lL A i - 1) then 2 else hpF A i k) = 0 ∨ (if A 9 (20 * i + k) = cR A i (lL A i - 1) then 2 else hpF A i k) = 2
    by_cases c : A 9 (20 * i + k) = cR A i (lL A i - 1)
    · rw [if_pos c]; exact Or.inr rfl
    · rw [if_neg c]; exact ih
theorem st_ranked {A : Nat → Nat → Int32} {i : Nat} (h : stF A i = 1) : lL A i ≤ nX A i := by
  unfold stF at h
  by_cases c : lL A i ≤ nX A i
  · exact c
  · rw [if_neg c] at h
    rcases hpF_or A i (pR A i) with g | g <;> rw [g] at h
    · exact absurd h (by decide)
    · exact absurd h (by decide)
theorem vo_or (A : Nat → Nat → Int32) (i g : Nat) : vo A i g = 0 ∨ vo A i g = 1 := by
  unfold vo
  by_cases c : fR A i g = 0
  · rw [if_pos c]
    by_cases c2 : fR A i (g + 1) = 0
    · rw [if_pos c2]; exact Or.inl rfl
    · rw [if_neg c2]; exact Or.inr rfl
  · rw [if_neg c]; exact Or.inr rfl
theorem vo_0 {A : Nat → Nat → Int32} {i g : Nat} (h : vo A i g = 0) : fR A i g = 0 ∧ fR A i (g + 1) = 0 := by
  unfold vo at h
  by_cases c : fR A i g = 0
  · rw [if_pos c] at h
    by_cases c2 : fR A i (g + 1) = 0
    · exact ⟨c, c2⟩
    · rw [if_neg c2] at h; exact absurd h one_ne
  · rw [if_neg c] at h; exact absurd h one_ne
/-- a minute is none, or one -/
theorem aT_or {A : Nat → Nat → Int32} {i : Nat} (hA : RF A i) (j : Nat) : aT A i j = -1 ∨ (0 ≤ (aT A i j).toInt ∧ (aT A i j).toInt ≤ 9999) := by
  obtain ⟨t1, t3, t4, t5, t6, t7, t8, t9⟩ := TF_thr hA (pR A i) (Nat.le_refl _)
  obtain ⟨r1, r2, r3, r4, r5, r6, r7, r8, r9, r10, r11, r12, r13⟩ := hA
  by_cases e : j = 0
  · rw [e]
    unfold aT
    rw [t3]
    rcases r13 with g | g
    · exact Or.inl g.1
    · exact Or.inr (by omega)
  · rcases t4 j (by omega) with g | ⟨_, _, _, g, g2⟩
    · exact Or.inl g
    · exact Or.inr ⟨g2, g⟩
theorem spl_or {A : Nat → Nat → Int32} {i : Nat} (hA : RF A i) (g : Nat) : spl A i g = -1 ∨ (0 ≤ (spl A i g).toInt ∧ (spl A i g).toInt ≤ 9999) := by
  have a := aT_or hA g
  have b := aT_or hA (g + 1)
  obtain ⟨t1, t3, t4, t5, t6, t7, t8, t9⟩ := TF_thr hA (pR A i) (Nat.le_refl _)
  unfold spl
  by_cases c : vo A i g = 0
  · rw [if_pos c]
    by_cases c1 : aT A i g = -1
    · rw [if_pos c1]; exact Or.inl rfl
    rw [if_neg c1]
    by_cases c2 : aT A i (g + 1) = -1
    · rw [if_pos c2]; exact Or.inl rfl
    rw [if_neg c2]
    have a' := a.resolve_left c1
    have b' := b.resolve_left c2
    have m : (aT A i g).toInt ≤ (aT A i (g + 1)).toInt := t6 g (g + 1) (by omega) c1 c2
    rw [tsub (by omega)]
    exact Or.inr (by omega)
  · rw [if_neg c]; exact Or.inl rfl
/-- who is RANKED has a split of each leg that is not void -/
theorem spl_is {A : Nat → Nat → Int32} {i g : Nat} (hA : RF A i) (hr : stF A i = 1) (hv : vo A i g = 0) (hg : g + 1 < lL A i) : 0 ≤ (spl A i g).toInt ∧ (spl A i g).toInt ≤ 9999 := by
  refine (spl_or hA g).resolve_left ?_
  have hn := st_ranked hr
  obtain ⟨f1, f2⟩ := vo_0 hv
  have a := aT_or hA g
  have b := aT_or hA (g + 1)
  obtain ⟨t1, t3, t4, t5, t6, t7, t8, t9⟩ := TF_thr hA (pR A i) (Nat.le_refl _)
  obtain ⟨r1, r2, r3, r4, r5, r6, r7, r8, r9, r10, r11, r12, r13⟩ := hA
  have hx : g + 1 < (thr A i (pR A i)).1 := by unfold nX at hn; omega
  have c2 : aT A i (g + 1) ≠ -1 := t5 (g + 1) (by omega) hx f2
  have c1 : aT A i g ≠ -1 := by
    by_cases e : g = 0
    · subst e
      show (thr A i (pR A i)).2.1 0 ≠ -1
      rw [t3]
      intro h8
      rcases r13 with q | q
      · obtain ⟨s1, s2, s3, s4⟩ := sk_all (A := A) (i := i) _ 1 rfl (by omega)
        rw [q.2] at hx
        exact s3 1 (Nat.le_refl _) hx f2
      · rw [h8, tlm1] at q
        omega
    · exact t5 g (by omega) (by omega) f1
  have a' := a.resolve_left c1
  have b' := b.resolve_left c2
  have m : (aT A i g).toInt ≤ (aT A i (g + 1)).toInt := t6 g (g + 1) (by omega) c1 c2
  unfold spl
  rw [if_pos hv, if_neg c1, if_neg c2]
  intro h
  rw [teq, tsub (by omega), tlm1] at h
  omega
theorem tsum_in {A : Nat → Nat → Int32} {i : Nat} (hA : RF A i) : ∀ m, m ≤ 6 → 0 ≤ (tsum A i m).toInt ∧ (tsum A i m).toInt ≤ 9999 * m := by
  intro m
  induction m with
  | zero => intro _; exact ⟨Int.le_refl 0, Int.le_refl 0⟩
  | succ m ih =>
    intro hm
    obtain ⟨a, b⟩ := ih (by omega)
    show 0 ≤ (tsum A i m + (if spl A i m = -1 then 0 else spl A i m)).toInt ∧ (tsum A i m + (if spl A i m = -1 then 0 else spl A i m)).toInt ≤ 9999 * ((m + 1 : Nat) : Int)
    rcases spl_or hA m with g | g
    · rw [if_pos g, tadd (by rw [tl0]; omega), tl0]
      omega
    · rw [if_neg (fun e => by rw [e, tlm1] at g; omega), tadd (by omega)]
      omega
