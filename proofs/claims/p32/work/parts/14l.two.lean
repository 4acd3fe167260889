/-! ===== pure: two clubs, of which one is turned: the law's wrappers ===== -/
def Two (s s' : gSt) : Prop := ∃ τ t, Rel s τ ∧ Rel s' t ∧ Tr τ t
/-- both give the same, and stay turned -/
def R2 (oa ob : Option (Int32 × gSt)) : Prop := ∃ r s s', oa = some (r, s) ∧ ob = some (r, s') ∧ Two s s'
theorem two_of {P : Nat → Prop} {g : Nat → Int32} {v : Int32 → Int32 → Prop} {a9 b9 : Option (Nat × Int32 × gSt)} {a10 b10 : Option (Int32 × gSt)} (A : Agr P g v a9 a10) (B : Agr P g v b9 b10) (S : SymR a10 b10) (hg : ∀ k, P k → (g k = 0 ↔ k = 0)) : ∃ k r s k' r' s', a9 = some (k, r, s) ∧ b9 = some (k', r', s') ∧ P k ∧ P k' ∧ (k = 0 ↔ k' = 0) ∧ (k = 0 → ∃ b, v b r ∧ v b r') ∧ Two s s' := by
  obtain ⟨k, r, s, b, τ, a1, a2, a3, a4, a5, a6⟩ := A
  obtain ⟨k', r', s', b', t, b1, b2, b3, b4, b5, b6⟩ := B
  obtain ⟨c, u, c', u', s1, s2, s3, s4, s5⟩ := S
  have e := Option.some.inj (a2.symm.trans s1)
  have e' := Option.some.inj (b2.symm.trans s2)
  obtain ⟨rfl, rfl⟩ : b = c ∧ τ = u := ⟨congrArg Prod.fst e, congrArg Prod.snd e⟩
  obtain ⟨rfl, rfl⟩ : b' = c' ∧ t = u' := ⟨congrArg Prod.fst e', congrArg Prod.snd e'⟩
  have q1 := hg k a3
  have q2 := hg k' b3
  rw [← a4] at q1
  rw [← b4, ← s3] at q2
  have h0 : k = 0 ↔ k' = 0 := q1.symm.trans q2
  refine ⟨k, r, s, k', r', s', a1, b1, a3, b3, h0, fun hk => ⟨b, a5 hk, ?_⟩, τ, t, a6, b6, s5⟩
  rw [s4 (q1.mpr hk)]
  exact b5 (h0.mp hk)
theorem lf_I {C : Nat → Prop} {d : ∀ q : Nat × Int32 × gSt, Decidable (¬ C q.1)} {k : Nat} {r : Int32} {s : gSt} (hC : C k) : ((some (k, r, s) : Option (Nat × Int32 × gSt)).bind (fun q => @ite _ (¬ C q.1) (d q) none (if q.1 = 0 then some (q.2.1, q.2.2) else some ((-8), q.2.2)))) = some ((if k = 0 then r else (-8)), s) := by
  rw [Option.bind_some]
  show (@ite _ (¬ C k) (d (k, r, s)) none (if k = 0 then some (r, s) else some ((-8), s))) = _
  rw [if_neg (fun g => g hC)]
  by_cases c : k = 0
  · rw [if_pos c, if_pos c]
  · rw [if_neg c, if_neg c]
theorem lf_Z {C : Nat → Prop} {d : ∀ q : Nat × Int32 × gSt, Decidable (¬ C q.1)} {k : Nat} {r : Int32} {s : gSt} (hC : C k) : ((some (k, r, s) : Option (Nat × Int32 × gSt)).bind (fun q => @ite _ (¬ C q.1) (d q) none (if q.1 = 0 then (if q.2.1 = 0 then some ((0 : Int32), q.2.2) else some (1, q.2.2)) else some ((-8), q.2.2)))) = some ((if k = 0 then (if r = 0 then 0 else 1) else (-8)), s) := by
  rw [Option.bind_some]
  show (@ite _ (¬ C k) (d (k, r, s)) none (if k = 0 then (if r = 0 then some ((0 : Int32), s) else some (1, s)) else some ((-8), s))) = _
  rw [if_neg (fun g => g hC)]
  by_cases c : k = 0
  · rw [if_pos c, if_pos c]
    by_cases e : r = 0
    · rw [if_pos e, if_pos e]
    · rw [if_neg e, if_neg e]
  · rw [if_neg c, if_neg c]
theorem leaf_I {P : Nat → Prop} {g : Nat → Int32} {a9 b9 : Option (Nat × Int32 × gSt)} {a10 b10 : Option (Int32 × gSt)} {C : Nat → Prop} {d : ∀ q : Nat × Int32 × gSt, Decidable (¬ C q.1)} (A : Agr P g vI a9 a10) (B : Agr P g vI b9 b10) (S : SymR a10 b10) (hg : ∀ k, P k → (g k = 0 ↔ k = 0)) (hC : ∀ k, P k → C k) : R2 (a9.bind (fun q => @ite _ (¬ C q.1) (d q) none (if q.1 = 0 then some (q.2.1, q.2.2) else some ((-8), q.2.2)))) (b9.bind (fun q => @ite _ (¬ C q.1) (d q) none (if q.1 = 0 then some (q.2.1, q.2.2) else some ((-8), q.2.2)))) := by
  obtain ⟨k, r, s, k', r', s', e1, e2, p1, p2, h0, hv, hT⟩ := two_of A B S hg
  rw [e1, e2]
  refine ⟨_, s, s', lf_I (hC k p1), ?_, hT⟩
  rw [lf_I (hC k' p2)]
  by_cases c : k = 0
  · obtain ⟨b, v1, v2⟩ := hv c
    have v1 : b = r := v1
    have v2 : b = r' := v2
    rw [if_pos c, if_pos (h0.mp c), ← v1, ← v2]
  · rw [if_neg c, if_neg (fun e => c (h0.mpr e))]
theorem leaf_Z {P : Nat → Prop} {g : Nat → Int32} {a9 b9 : Option (Nat × Int32 × gSt)} {a10 b10 : Option (Int32 × gSt)} {C : Nat → Prop} {d : ∀ q : Nat × Int32 × gSt, Decidable (¬ C q.1)} (A : Agr P g vZ a9 a10) (B : Agr P g vZ b9 b10) (S : SymR a10 b10) (hg : ∀ k, P k → (g k = 0 ↔ k = 0)) (hC : ∀ k, P k → C k) : R2 (a9.bind (fun q => @ite _ (¬ C q.1) (d q) none (if q.1 = 0 then (if q.2.1 = 0 then some (0, q.2.2) else some (1, q.2.2)) else some ((-8), q.2.2)))) (b9.bind (fun q => @ite _ (¬ C q.1) (d q) none (if q.1 = 0 then (if q.2.1 = 0 then some (0, q.2.2) else some (1, q.2.2)) else some ((-8), q.2.2)))) := by
  obtain ⟨k, r, s, k', r', s', e1, e2, p1, p2, h0, hv, hT⟩ := two_of A B S hg
  rw [e1, e2]
  refine ⟨_, s, s', lf_Z (hC k p1), ?_, hT⟩
  rw [lf_Z (hC k' p2)]
  by_cases c : k = 0
  · obtain ⟨b, v1, v2⟩ := hv c
    have v1 : b = 0 ↔ r = 0 := v1
    have v2 : b = 0 ↔ r' = 0 := v2
    rw [if_pos c, if_pos (h0.mp c)]
    by_cases z : b = 0
    · rw [if_pos (v1.mp z), if_pos (v2.mp z)]
    · rw [if_neg (fun e => z (v1.mpr e)), if_neg (fun e => z (v2.mpr e))]
  · rw [if_neg c, if_neg (fun e => c (h0.mpr e))]
section Wrappers
variable {N : Nat} {s s' : gSt}
theorem two_setHeight (hN : 1000000000000000000000 < N) (h : Two s s') (x y z : Int32) : R2 (h_does N s 0 x y z) (h_does N s' 0 y x z) := by
  obtain ⟨τ, t, hA, hB, hT⟩ := h
  unfold h_does
  rw [if_pos (c := (0 : Int32) = 0) rfl, if_pos (c := (0 : Int32) = 0) rfl]
  exact leaf_I (C := fun k => k = 0 ∨ k = 1 ∨ k = 2 ∨ k = 3) (owe_setHeight N _ _ x y z hA) (owe_setHeight N _ _ y x z hB) (sym_setHeight hA.2 hB.2 hT) (by rintro k (rfl | rfl | rfl) <;> decide) (by rintro k (rfl | rfl | rfl) <;> simp)
theorem two_visit (hN : 1000000000000000000000 < N) (h : Two s s') (x y z : Int32) : R2 (h_does N s 1 x y z) (h_does N s' 1 x y z) := by
  obtain ⟨τ, t, hA, hB, hT⟩ := h
  unfold h_does
  rw [if_neg (c := (1 : Int32) = 0) (by decide), if_neg (c := (1 : Int32) = 0) (by decide)]
  rw [if_pos (c := (1 : Int32) = 1) rfl, if_pos (c := (1 : Int32) = 1) rfl]
  exact leaf_I (C := fun k => k = 0 ∨ k = 1 ∨ k = 2 ∨ k = 3) (owe_visit (N := N) (by omega) _ _ x y hA) (owe_visit (N := N) (by omega) _ _ x y hB) (sym_visit hA.2 hB.2 (by omega) hT) (by rintro k (rfl | rfl | rfl) <;> decide) (by rintro k (rfl | rfl | rfl) <;> simp)
theorem two_arrange (hN : 1000000000000000000000 < N) (h : Two s s') (x y z : Int32) : R2 (h_does N s 2 x y z) (h_does N s' 2 x y z) := by
  obtain ⟨τ, t, hA, hB, hT⟩ := h
  unfold h_does
  rw [if_neg (c := (2 : Int32) = 0) (by decide), if_neg (c := (2 : Int32) = 0) (by decide)]
  rw [if_neg (c := (2 : Int32) = 1) (by decide), if_neg (c := (2 : Int32) = 1) (by decide)]
  rw [if_pos (c := (2 : Int32) = 2) rfl, if_pos (c := (2 : Int32) = 2) rfl]
  exact leaf_I (C := fun k => k = 0 ∨ k = 1 ∨ k = 2 ∨ k = 3) (owe_arrange hN _ _ x y hA) (owe_arrange hN _ _ x y hB) (sym_arrange hA hB hN hT) (by rintro k (rfl | rfl | rfl | rfl) <;> decide) (by rintro k (rfl | rfl | rfl | rfl) <;> simp)
theorem two_enter (hN : 1000000000000000000000 < N) (h : Two s s') (x y z : Int32) : R2 (h_does N s 3 x y z) (h_does N s' 3 x y z) := by
  obtain ⟨τ, t, hA, hB, hT⟩ := h
  unfold h_does
  rw [if_neg (c := (3 : Int32) = 0) (by decide), if_neg (c := (3 : Int32) = 0) (by decide)]
  rw [if_neg (c := (3 : Int32) = 1) (by decide), if_neg (c := (3 : Int32) = 1) (by decide)]
  rw [if_neg (c := (3 : Int32) = 2) (by decide), if_neg (c := (3 : Int32) = 2) (by decide)]
  rw [if_pos (c := (3 : Int32) = 3) rfl, if_pos (c := (3 : Int32) = 3) rfl]
  exact leaf_I (C := fun k => k = 0 ∨ k = 1 ∨ k = 2 ∨ k = 3) (owe_enter N _ _ x y hA) (owe_enter N _ _ x y hB) (sym_enter hA.2 hB.2 hT) (by rintro k (rfl | rfl | rfl | rfl) <;> decide) (by rintro k (rfl | rfl | rfl | rfl) <;> simp)
theorem two_draw (hN : 1000000000000000000000 < N) (h : Two s s') (x y z : Int32) : R2 (h_does N s 4 x y z) (h_does N s' 4 x y z) := by
  obtain ⟨τ, t, hA, hB, hT⟩ := h
  unfold h_does
  rw [if_neg (c := (4 : Int32) = 0) (by decide), if_neg (c := (4 : Int32) = 0) (by decide)]
  rw [if_neg (c := (4 : Int32) = 1) (by decide), if_neg (c := (4 : Int32) = 1) (by decide)]
  rw [if_neg (c := (4 : Int32) = 2) (by decide), if_neg (c := (4 : Int32) = 2) (by decide)]
  rw [if_neg (c := (4 : Int32) = 3) (by decide), if_neg (c := (4 : Int32) = 3) (by decide)]
  rw [if_pos (c := (4 : Int32) = 4) rfl, if_pos (c := (4 : Int32) = 4) rfl]
  exact leaf_I (C := fun k => k = 0 ∨ k = 1 ∨ k = 2 ∨ k = 3) (owe_draw (N := N) (by omega) _ _ x y hA) (owe_draw (N := N) (by omega) _ _ x y hB) (sym_draw hA hB.2 (by omega) hT) (by rintro k (rfl | rfl | rfl) <;> decide) (by rintro k (rfl | rfl | rfl) <;> simp)
theorem two_control (hN : 1000000000000000000000 < N) (h : Two s s') (x y z : Int32) : R2 (h_does N s 5 x y z) (h_does N s' 5 y x z) := by
  obtain ⟨τ, t, hA, hB, hT⟩ := h
  unfold h_does
  rw [if_neg (c := (5 : Int32) = 0) (by decide), if_neg (c := (5 : Int32) = 0) (by decide)]
  rw [if_neg (c := (5 : Int32) = 1) (by decide), if_neg (c := (5 : Int32) = 1) (by decide)]
  rw [if_neg (c := (5 : Int32) = 2) (by decide), if_neg (c := (5 : Int32) = 2) (by decide)]
  rw [if_neg (c := (5 : Int32) = 3) (by decide), if_neg (c := (5 : Int32) = 3) (by decide)]
  rw [if_neg (c := (5 : Int32) = 4) (by decide), if_neg (c := (5 : Int32) = 4) (by decide)]
  rw [if_pos (c := (5 : Int32) = 5) rfl, if_pos (c := (5 : Int32) = 5) rfl]
  exact leaf_I (C := fun k => k = 0 ∨ k = 1 ∨ k = 2 ∨ k = 3) (owe_control (N := N) (by omega) _ _ x y hA) (owe_control (N := N) (by omega) _ _ y x hB) (sym_control hA.2 hB.2 (by omega) hT) (by rintro k (rfl | rfl | rfl) <;> decide) (by rintro k (rfl | rfl | rfl) <;> simp)
theorem two_punch (hN : 1000000000000000000000 < N) (h : Two s s') (x y z : Int32) : R2 (h_does N s 6 x y z) (h_does N s' 6 x y z) := by
  obtain ⟨τ, t, hA, hB, hT⟩ := h
  unfold h_does
  rw [if_neg (c := (6 : Int32) = 0) (by decide), if_neg (c := (6 : Int32) = 0) (by decide)]
  rw [if_neg (c := (6 : Int32) = 1) (by decide), if_neg (c := (6 : Int32) = 1) (by decide)]
  rw [if_neg (c := (6 : Int32) = 2) (by decide), if_neg (c := (6 : Int32) = 2) (by decide)]
  rw [if_neg (c := (6 : Int32) = 3) (by decide), if_neg (c := (6 : Int32) = 3) (by decide)]
  rw [if_neg (c := (6 : Int32) = 4) (by decide), if_neg (c := (6 : Int32) = 4) (by decide)]
  rw [if_neg (c := (6 : Int32) = 5) (by decide), if_neg (c := (6 : Int32) = 5) (by decide)]
  exact leaf_I (C := fun k => k = 0 ∨ k = 1 ∨ k = 2 ∨ k = 3) (owe_punch (N := N) (by omega) _ _ x y z hA) (owe_punch (N := N) (by omega) _ _ x y z hB) (sym_punch hA hB (by omega) hT) (by rintro k (rfl | rfl | rfl | rfl) <;> decide) (by rintro k (rfl | rfl | rfl | rfl) <;> simp)
theorem two_hill (hN : 1000000000000000000000 < N) (h : Two s s') (x y c f z : Int32) : R2 (h_lay N s 0 x y c f z) (h_lay N s' 0 y x c f z) := by
  obtain ⟨τ, t, hA, hB, hT⟩ := h
  unfold h_lay
  rw [if_pos (c := (0 : Int32) = 0) rfl, if_pos (c := (0 : Int32) = 0) rfl]
  exact leaf_I (C := fun k => k = 0 ∨ k = 1 ∨ k = 2) (owe_hill (N := N) (by omega) _ _ x y c f hA) (owe_hill (N := N) (by omega) _ _ y x c f hB) (sym_hill hA.2 hB.2 (by omega) hT) (by rintro k (rfl | rfl | rfl) <;> decide) (by rintro k (rfl | rfl | rfl) <;> simp)
theorem two_ground (hN : 1000000000000000000000 < N) (h : Two s s') (x y x2 y2 g : Int32) : R2 (h_lay N s 1 x y x2 y2 g) (h_lay N s' 1 y x y2 x2 g) := by
  obtain ⟨τ, t, hA, hB, hT⟩ := h
  unfold h_lay
  rw [if_neg (c := (1 : Int32) = 0) (by decide), if_neg (c := (1 : Int32) = 0) (by decide)]
  exact leaf_I (C := fun k => k = 0 ∨ k = 1 ∨ k = 2) (owe_setGround (N := N) (by omega) _ _ x y x2 y2 g hA) (owe_setGround (N := N) (by omega) _ _ y x y2 x2 g hB) (sym_setGround hA.2 hB.2 (by omega) hT) (by rintro k (rfl | rfl | rfl) <;> decide) (by rintro k (rfl | rfl | rfl) <;> simp)
theorem two_fail (hN : 1000000000000000000000 < N) (h : Two s s') (x z : Int32) (hz : z = 0 ∨ z = 1) : R2 (h_fail N s x z) (h_fail N s' x z) := by
  obtain ⟨τ, t, hA, hB, hT⟩ := h
  unfold h_fail
  exact leaf_Z (C := fun k => k = 0 ∨ k = 1 ∨ k = 3) (owe_fail (N := N) (by omega) _ _ x z hA hz) (owe_fail (N := N) (by omega) _ _ x z hB hz) (sym_fail hA.2 hB.2 (by omega) hT) (by rintro k (rfl | rfl | rfl) <;> decide) (by rintro k (rfl | rfl | rfl) <;> simp)
theorem two_ofs (hN : 1000000000000000000000 < N) (h : Two s s') (w x : Int32) : R2 (h_of N s w x) (h_of N s' w x) := by
  obtain ⟨τ, t, hA, hB, hT⟩ := h
  unfold h_of
  by_cases c0 : w = 0
  · rw [if_pos c0, if_pos c0]
    exact leaf_I (C := fun k => k = 0 ∨ k = 1 ∨ k = 2) (owe_lines (N := N) (by omega) _ _ x hA) (owe_lines (N := N) (by omega) _ _ x hB) (sym_lines hA.2 hB.2 (by omega) hT) (by rintro k (rfl | rfl) <;> decide) (by rintro k (rfl | rfl) <;> simp)
  rw [if_neg c0, if_neg c0]
  by_cases c1 : w = 1
  · rw [if_pos c1, if_pos c1]
    exact leaf_I (C := fun k => k = 0 ∨ k = 1 ∨ k = 2) (owe_rings (N := N) (by omega) _ _ x hA) (owe_rings (N := N) (by omega) _ _ x hB) (sym_rings hA.2 hB.2 (by omega) hT) (by rintro k (rfl | rfl) <;> decide) (by rintro k (rfl | rfl) <;> simp)
  rw [if_neg c1, if_neg c1]
  by_cases c2 : w = 2
  · rw [if_pos c2, if_pos c2]
    exact leaf_I (C := fun k => k = 0 ∨ k = 1 ∨ k = 2) (owe_longest (N := N) (by omega) _ _ x hA) (owe_longest (N := N) (by omega) _ _ x hB) (sym_longest hA.2 hB.2 (by omega) hT) (by rintro k (rfl | rfl) <;> decide) (by rintro k (rfl | rfl) <;> simp)
  rw [if_neg c2, if_neg c2]
  by_cases c3 : w = 3
  · rw [if_pos c3, if_pos c3]
    exact leaf_I (C := fun k => k = 0 ∨ k = 1 ∨ k = 2) (owe_courseClimb hN _ _ x hA) (owe_courseClimb hN _ _ x hB) (sym_courseClimb hA.2 hB.2 hN hT) (by rintro k (rfl | rfl) <;> decide) (by rintro k (rfl | rfl) <;> simp)
  rw [if_neg c3, if_neg c3]
  by_cases c4 : w = 4
  · rw [if_pos c4, if_pos c4]
    exact leaf_I (C := fun k => k = 0 ∨ k = 1 ∨ k = 2) (owe_courseCost hN _ _ x hA) (owe_courseCost hN _ _ x hB) (sym_courseCost hA.2 hB.2 hN hT) (by rintro k (rfl | rfl) <;> decide) (by rintro k (rfl | rfl) <;> simp)
  rw [if_neg c4, if_neg c4]
  by_cases c5 : w = 5
  · rw [if_pos c5, if_pos c5]
    exact leaf_I (C := fun k => k = 0 ∨ k = 1 ∨ k = 2) (owe_startOf N _ _ x hA) (owe_startOf N _ _ x hB) (sym_startOf hA.2 hB.2 hT) (by rintro k (rfl | rfl) <;> decide) (by rintro k (rfl | rfl) <;> simp)
  rw [if_neg c5, if_neg c5]
  by_cases c6 : w = 6
  · rw [if_pos c6, if_pos c6]
    exact leaf_I (C := fun k => k = 0 ∨ k = 1 ∨ k = 2) (owe_stateOf (N := N) (by omega) _ _ x hA) (owe_stateOf (N := N) (by omega) _ _ x hB) (sym_stateOf hA.2 hB.2 (by omega) hT) (by rintro k (rfl | rfl) <;> decide) (by rintro k (rfl | rfl) <;> simp)
  rw [if_neg c6, if_neg c6]
  by_cases c7 : w = 7
  · rw [if_pos c7, if_pos c7]
    exact leaf_I (C := fun k => k = 0 ∨ k = 1 ∨ k = 2) (owe_total (N := N) (by omega) _ _ x hA) (owe_total (N := N) (by omega) _ _ x hB) (sym_total hA.2 hB.2 (by omega) hT) (by rintro k (rfl | rfl) <;> decide) (by rintro k (rfl | rfl) <;> simp)
  rw [if_neg c7, if_neg c7]
  exact leaf_I (C := fun k => k = 0 ∨ k = 1 ∨ k = 2) (owe_rank (N := N) (by omega) _ _ x hA) (owe_rank (N := N) (by omega) _ _ x hB) (sym_rank hA.2 hB.2 (by omega) hT) (by rintro k (rfl | rfl) <;> decide) (by rintro k (rfl | rfl) <;> simp)
theorem two_cell (hN : 1000000000000000000000 < N) (h : Two s s') (x y : Int32) : R2 (h_at N s 0 x y) (h_at N s' 0 y x) := by
  obtain ⟨τ, t, hA, hB, hT⟩ := h
  unfold h_at
  rw [if_pos (c := (0 : Int32) = 0) rfl, if_pos (c := (0 : Int32) = 0) rfl]
  exact leaf_I (C := fun k => k = 0 ∨ k = 1) (owe_cell N _ _ x y hA) (owe_cell N _ _ y x hB) (sym_cell hA.2 hB.2 hT) (by rintro k (rfl | rfl) <;> decide) (by rintro k (rfl | rfl) <;> simp)
theorem two_ats (hN : 1000000000000000000000 < N) (h : Two s s') (w x y : Int32) (hw : ¬ w = 0) : R2 (h_at N s w x y) (h_at N s' w x y) := by
  obtain ⟨τ, t, hA, hB, hT⟩ := h
  unfold h_at
  rw [if_neg hw, if_neg hw]
  by_cases c1 : w = 1
  · rw [if_pos c1, if_pos c1]
    exact leaf_I (C := fun k => k = 0 ∨ k = 1) (owe_cost hN _ _ x y hA) (owe_cost hN _ _ x y hB) (sym_cost hA.2 hB.2 hN hT) (by rintro k (rfl | rfl) <;> decide) (by rintro k (rfl | rfl) <;> simp)
  rw [if_neg c1, if_neg c1]
  by_cases c2 : w = 2
  · rw [if_pos c2, if_pos c2]
    exact leaf_I (C := fun k => k = 0 ∨ k = 1) (owe_costByCells hN _ _ x y hA) (owe_costByCells hN _ _ x y hB) (sym_costByCells hA.2 hB.2 hN hT) (by rintro k (rfl | rfl) <;> decide) (by rintro k (rfl | rfl) <;> simp)
  rw [if_neg c2, if_neg c2]
  by_cases c3 : w = 3
  · rw [if_pos c3, if_pos c3]
    exact leaf_I (C := fun k => k = 0 ∨ k = 1) (owe_climb hN _ _ x y hA) (owe_climb hN _ _ x y hB) (sym_climb hA.2 hB.2 hN hT) (by rintro k (rfl | rfl) <;> decide) (by rintro k (rfl | rfl) <;> simp)
  rw [if_neg c3, if_neg c3]
  by_cases c4 : w = 4
  · rw [if_pos c4, if_pos c4]
    exact leaf_Z (C := fun k => k = 0 ∨ k = 1) (owe_tempts hN _ _ x y hA) (owe_tempts hN _ _ x y hB) (sym_tempts hA.2 hB.2 hN hT) (by rintro k (rfl | rfl) <;> decide) (by rintro k (rfl | rfl) <;> simp)
  rw [if_neg c4, if_neg c4]
  by_cases c5 : w = 5
  · rw [if_pos c5, if_pos c5]
    exact leaf_I (C := fun k => k = 0 ∨ k = 1) (owe_courseAt N _ _ x y hA) (owe_courseAt N _ _ x y hB) (sym_courseAt hA.2 hT) (by rintro k (rfl | rfl) <;> decide) (by rintro k (rfl | rfl) <;> simp)
  rw [if_neg c5, if_neg c5]
  by_cases c6 : w = 6
  · rw [if_pos c6, if_pos c6]
    exact leaf_I (C := fun k => k = 0 ∨ k = 1) (owe_split (N := N) (by omega) _ _ x y hA) (owe_split (N := N) (by omega) _ _ x y hB) (sym_split hA.2 hB.2 (by omega) hT) (by rintro k (rfl | rfl) <;> decide) (by rintro k (rfl | rfl) <;> simp)
  rw [if_neg c6, if_neg c6]
  exact leaf_I (C := fun k => k = 0 ∨ k = 1) (owe_lost (N := N) (by omega) _ _ x y hA) (owe_lost (N := N) (by omega) _ _ x y hB) (sym_lost hA.2 hB.2 (by omega) hT) (by rintro k (rfl | rfl) <;> decide) (by rintro k (rfl | rfl) <;> simp)
theorem two_runners (h : Two s s') : f_X9_runners s = f_X9_runners s' := by
  obtain ⟨τ, t, hA, hB, hT⟩ := h
  show s.2 10 = s'.2 10
  rw [hA.1.2.2.2.2.2.1, hB.1.2.2.2.2.2.1, hT.1.2.2.2.1]
theorem two_spread (hN : 1000000000000000000000 < N) (h : Two s s') : R2 (f_X9_spread N s) (f_X9_spread N s') := by
  obtain ⟨τ, t, hA, hB, hT⟩ := h
  obtain ⟨b, u, v, a1, a2, a3⟩ := owe_spread hN s τ hA
  obtain ⟨b', u', v', b1, b2, b3⟩ := owe_spread hN s' t hB
  obtain ⟨c, w, c', w', s1, s2, s3, s4, s5⟩ := sym_spread hA.2 hB.2 hN hT
  have e := Option.some.inj (a2.symm.trans s1)
  have e' := Option.some.inj (b2.symm.trans s2)
  obtain ⟨rfl, rfl⟩ : b = c ∧ v = w := ⟨congrArg Prod.fst e, congrArg Prod.snd e⟩
  obtain ⟨rfl, rfl⟩ : b' = c' ∧ v' = w' := ⟨congrArg Prod.fst e', congrArg Prod.snd e'⟩
  obtain ⟨⟨m, m6⟩, hm, hKm⟩ := spread_m hA.2.six hN
  have e6 := Option.some.inj (a2.symm.trans hm)
  have h6 : v.2 6 = 0 := by rw [show v = m6 from congrArg Prod.snd e6]; exact six0 hKm.2
  rw [← s4 h6] at b1
  exact ⟨b, u, u', a1, b1, v, v', a3, b3, s5⟩
end Wrappers
