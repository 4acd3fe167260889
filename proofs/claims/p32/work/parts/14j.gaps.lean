/-! ===== pure: turned maps: gaps and lines ===== -/
def gt (i : Nat) : Nat := if i < 144 then 144 + tp i else tp (i - 144)
theorem gt_lo {k : Nat} (h : k < 144) : gt k = 144 + tp k := if_pos h
theorem gt_hi {k : Nat} : gt (144 + k) = tp k := by
  unfold gt
  rw [if_neg (by omega), show 144 + k - 144 = k by omega]
theorem gt_lt {i : Nat} (h : i < 288) : gt i < 288 := by
  unfold gt
  by_cases c : i < 144
  · rw [if_pos c]; have := tp_lt c; omega
  · rw [if_neg c]; have := tp_lt (k := i - 144) (by omega); omega
theorem gt_gt {i : Nat} (h : i < 288) : gt (gt i) = i := by
  by_cases c : i < 144
  · rw [gt_lo c, gt_hi, tp_tp c]
  · obtain ⟨j, rfl⟩ : ∃ j, i = 144 + j := ⟨i - 144, by omega⟩
    rw [gt_hi, gt_lo (tp_lt (by omega)), tp_tp (by omega)]
theorem high_tp {τ t : gSt} {lv : Int32} (h : Tr τ t) {k : Nat} (hk : k < 144) : high t lv (tp k) ↔ high τ lv k := by
  unfold high
  rw [h.2.1 k hk]
theorem gap_tp {τ t : gSt} {lv : Int32} (hT : InvT τ) (h : Tr τ t) {i : Nat} (hg : gapP τ lv i) : gapP t lv (gt i) := by
  obtain ⟨w1, w2, w3, w4, -⟩ := hT
  have e0 := h.1.1
  have e1 := h.1.2.1
  rcases hg with ⟨g1, g2, g3, g4⟩ | ⟨g1, g2, g3, g4, g5⟩
  · rw [gt_lo g1]
    have m1 := tp_mod g1
    have m2 := tp_div g1
    have m3 := tp_lt g1
    refine Or.inr ⟨by omega, by omega, ?_, ?_, ?_⟩
    · rw [show 144 + tp i - 144 = tp i by omega, m1, e0]; exact g3
    · rw [show 144 + tp i - 144 = tp i by omega, m2, e1]; exact g2
    · rw [show 144 + tp i - 144 = tp i by omega, show 144 + tp i - 132 = tp i + 12 by omega, ← tp_one (k := i) (by omega), high_tp h g1, high_tp h (by omega)]
      exact g4
  · obtain ⟨j, rfl⟩ : ∃ j, i = 144 + j := ⟨i - 144, by omega⟩
    rw [gt_hi]
    rw [show 144 + j - 144 = j by omega] at g3 g4 g5
    rw [show 144 + j - 132 = j + 12 by omega] at g5
    have j144 : j < 144 := by omega
    refine Or.inl ⟨tp_lt j144, ?_, ?_, ?_⟩
    · rw [tp_mod j144, e0]; exact g4
    · rw [tp_div j144, e1]; exact g3
    · rw [← tp_down (k := j) (by omega), high_tp h j144, high_tp h (by omega)]
      exact g5
theorem gap_iff {τ t : gSt} {lv : Int32} (hI : Inv τ) (hI' : Inv t) (h : Tr τ t) {i : Nat} (hi : i < 288) : gapP t lv (gt i) ↔ gapP τ lv i := by
  refine ⟨fun g => ?_, fun g => gap_tp hI.1 h g⟩
  have := gap_tp hI'.1 (h.symm hI) g
  rw [gt_gt hi] at this
  exact this
theorem border_tp {τ t : gSt} (h : Tr τ t) {i : Nat} (hi : i < 288) : border t (gt i) ↔ border τ i := by
  have e0 := h.1.1
  have e1 := h.1.2.1
  unfold border
  by_cases c : i < 144
  · rw [gt_lo c]
    have m1 := tp_mod c
    have m3 := tp_lt c
    rw [show 144 + tp i - 144 = tp i by omega, m1, e0]
    omega
  · obtain ⟨j, rfl⟩ : ∃ j, i = 144 + j := ⟨i - 144, by omega⟩
    have j144 : j < 144 := by omega
    rw [gt_hi, show 144 + j - 144 = j by omega]
    have m2 := tp_div j144
    have m3 := tp_lt j144
    rw [m2, e1]
    omega
/-- the four places of a square -/
def inSq (k a : Nat) : Prop := a = k ∨ a = k + 12 ∨ a = 144 + k ∨ a = 145 + k
def all4 (τ : gSt) (lv : Int32) (k : Nat) : Prop := gapP τ lv k ∧ gapP τ lv (k + 12) ∧ gapP τ lv (144 + k) ∧ gapP τ lv (145 + k)
/-- what a square joins -/
def SJ (τ : gSt) (lv : Int32) (k a b : Nat) : Prop := sqIn τ k ∧ (inSq k a ∧ gapP τ lv a) ∧ (inSq k b ∧ gapP τ lv b) ∧ (all4 τ lv k → (sqOwn τ lv k ∧ (((a = k ∨ a = 144 + k) ∧ (b = k ∨ b = 144 + k)) ∨ ((a = k + 12 ∨ a = 145 + k) ∧ (b = k + 12 ∨ b = 145 + k)))) ∨ (¬ sqOwn τ lv k ∧ (((a = k ∨ a = 145 + k) ∧ (b = k ∨ b = 145 + k)) ∨ ((a = k + 12 ∨ a = 144 + k) ∧ (b = k + 12 ∨ b = 144 + k)))))
theorem rl_keep {M : Nat → Nat} {a b i j : Nat} (h : M i = M j) : relab M a b i = relab M a b j := by
  unfold relab
  rw [h]
theorem rl_join {M : Nat → Nat} {a b : Nat} : relab M a b a = relab M a b b := by
  unfold relab
  rw [if_pos (show M b = M b from rfl)]
  split <;> rfl
theorem rl_fine {M f : Nat → Nat} {a b : Nat} (hf : f a = f b) (h : ∀ i j, M i = M j → f i = f j) (i j : Nat) (e : relab M a b i = relab M a b j) : f i = f j := by
  unfold relab at e
  by_cases c1 : M i = M b
  · rw [if_pos c1] at e
    by_cases c2 : M j = M b
    · exact (h i b c1).trans (h j b c2).symm
    · rw [if_neg c2] at e
      exact (h i b c1).trans (hf.symm.trans (h a j e))
  · rw [if_neg c1] at e
    by_cases c2 : M j = M b
    · rw [if_pos c2] at e
      exact (h i a e).trans (hf.trans (h j b c2).symm)
    · rw [if_neg c2] at e
      exact h i j e
noncomputable def fsG (τ : gSt) (lv : Int32) (k : Nat) : Nat := cif (gapP τ lv k) k (cif (gapP τ lv (k + 12)) (k + 12) (144 + k))
noncomputable def snG (τ : gSt) (lv : Int32) (k : Nat) : Nat := cif (gapP τ lv (145 + k)) (145 + k) (cif (gapP τ lv (144 + k)) (144 + k) (k + 12))
/-- a square with some gaps, not four: it has these two -/
theorem sq_two {τ : gSt} {lv : Int32} {k : Nat} (hT : InvT τ) (hk : sqIn τ k) (h4 : ¬ all4 τ lv k) (h1 : gapP τ lv k ∨ gapP τ lv (k + 12) ∨ gapP τ lv (144 + k) ∨ gapP τ lv (145 + k)) : (inSq k (fsG τ lv k) ∧ gapP τ lv (fsG τ lv k)) ∧ (inSq k (snG τ lv k) ∧ gapP τ lv (snG τ lv k)) ∧ ∀ a, inSq k a → gapP τ lv a → a = fsG τ lv k ∨ a = snG τ lv k := by
  obtain ⟨s1, s2, s3, s4⟩ := sq_gaps (lv := lv) hT hk
  unfold all4 at h4
  unfold inSq fsG snG
  by_cases c1 : gapP τ lv k <;> by_cases c2 : gapP τ lv (k + 12) <;> by_cases c3 : gapP τ lv (144 + k) <;> by_cases c4 : gapP τ lv (145 + k)
  · exact absurd ⟨c1, c2, c3, c4⟩ h4
  · exact (par14 s1 s2 s3 s4 c1 c2 c3 c4).elim
  · exact (par13 s1 s2 s3 s4 c1 c2 c3 c4).elim
  · rw [cif_pos c1, cif_neg c4, cif_neg c3]
    refine ⟨⟨Or.inl rfl, c1⟩, ⟨Or.inr (Or.inl rfl), c2⟩, ?_⟩
    rintro a (rfl | rfl | rfl | rfl) hg
    · exact Or.inl rfl
    · exact Or.inr rfl
    · exact absurd hg c3
    · exact absurd hg c4
  · exact (par11 s1 s2 s3 s4 c1 c2 c3 c4).elim
  · rw [cif_pos c1, cif_neg c4, cif_pos c3]
    refine ⟨⟨Or.inl rfl, c1⟩, ⟨Or.inr (Or.inr (Or.inl rfl)), c3⟩, ?_⟩
    rintro a (rfl | rfl | rfl | rfl) hg
    · exact Or.inl rfl
    · exact absurd hg c2
    · exact Or.inr rfl
    · exact absurd hg c4
  · rw [cif_pos c1, cif_pos c4]
    refine ⟨⟨Or.inl rfl, c1⟩, ⟨Or.inr (Or.inr (Or.inr rfl)), c4⟩, ?_⟩
    rintro a (rfl | rfl | rfl | rfl) hg
    · exact Or.inl rfl
    · exact absurd hg c2
    · exact absurd hg c3
    · exact Or.inr rfl
  · exact (par8 s1 s2 s3 s4 c1 c2 c3 c4).elim
  · exact (par7 s1 s2 s3 s4 c1 c2 c3 c4).elim
  · rw [cif_neg c1, cif_pos c2, cif_neg c4, cif_pos c3]
    refine ⟨⟨Or.inr (Or.inl rfl), c2⟩, ⟨Or.inr (Or.inr (Or.inl rfl)), c3⟩, ?_⟩
    rintro a (rfl | rfl | rfl | rfl) hg
    · exact absurd hg c1
    · exact Or.inl rfl
    · exact Or.inr rfl
    · exact absurd hg c4
  · rw [cif_neg c1, cif_pos c2, cif_pos c4]
    refine ⟨⟨Or.inr (Or.inl rfl), c2⟩, ⟨Or.inr (Or.inr (Or.inr rfl)), c4⟩, ?_⟩
    rintro a (rfl | rfl | rfl | rfl) hg
    · exact absurd hg c1
    · exact Or.inl rfl
    · exact absurd hg c3
    · exact Or.inr rfl
  · exact (par4 s1 s2 s3 s4 c1 c2 c3 c4).elim
  · rw [cif_neg c1, cif_neg c2, cif_pos c4]
    refine ⟨⟨Or.inr (Or.inr (Or.inl rfl)), c3⟩, ⟨Or.inr (Or.inr (Or.inr rfl)), c4⟩, ?_⟩
    rintro a (rfl | rfl | rfl | rfl) hg
    · exact absurd hg c1
    · exact absurd hg c2
    · exact Or.inl rfl
    · exact Or.inr rfl
  · exact (par2 s1 s2 s3 s4 c1 c2 c3 c4).elim
  · exact (par1 s1 s2 s3 s4 c1 c2 c3 c4).elim
  · rcases h1 with h | h | h | h
    · exact absurd h c1
    · exact absurd h c2
    · exact absurd h c3
    · exact absurd h c4
/-- a square's step: what was joined stays so, what it joins is joined, nothing else is -/
theorem sq_step {τ : gSt} {lv : Int32} {k : Nat} {M : Nat → Nat} (hT : InvT τ) : (∀ i j, M i = M j → sqF τ lv k M i = sqF τ lv k M j) ∧ (∀ a b, SJ τ lv k a b → sqF τ lv k M a = sqF τ lv k M b) ∧ (∀ f : Nat → Nat, (∀ a b, SJ τ lv k a b → f a = f b) → (∀ i j, M i = M j → f i = f j) → ∀ i j, sqF τ lv k M i = sqF τ lv k M j → f i = f j) := by
  unfold sqF
  by_cases hk : sqIn τ k
  · rw [cif_pos hk]
    by_cases h4 : all4 τ lv k
    · obtain ⟨p1, p2, p3, p4⟩ := id h4
      rw [cif_pos (show gapP τ lv k ∧ gapP τ lv (k + 12) ∧ gapP τ lv (144 + k) ∧ gapP τ lv (145 + k) from h4)]
      by_cases ho : sqOwn τ lv k
      · rw [cif_pos ho]
        refine ⟨fun i j e => rl_keep (rl_keep e), fun a b hs => ?_, fun f hf hM => ?_⟩
        · obtain ⟨-, -, -, hs⟩ := hs
          rcases hs h4 with ⟨-, ⟨ha, hb⟩ | ⟨ha, hb⟩⟩ | ⟨hn, -⟩
          · refine rl_keep ?_
            rcases ha with rfl | rfl <;> rcases hb with rfl | rfl
            · rfl
            · exact rl_join
            · exact rl_join.symm
            · rfl
          · rcases ha with rfl | rfl <;> rcases hb with rfl | rfl
            · rfl
            · exact rl_join
            · exact rl_join.symm
            · rfl
          · exact absurd ho hn
        · have f1 : f k = f (144 + k) := hf _ _ ⟨hk, ⟨Or.inl rfl, p1⟩, ⟨Or.inr (Or.inr (Or.inl rfl)), p3⟩, fun _ => Or.inl ⟨ho, Or.inl ⟨Or.inl rfl, Or.inr rfl⟩⟩⟩
          have f2 : f (k + 12) = f (145 + k) := hf _ _ ⟨hk, ⟨Or.inr (Or.inl rfl), p2⟩, ⟨Or.inr (Or.inr (Or.inr rfl)), p4⟩, fun _ => Or.inl ⟨ho, Or.inr ⟨Or.inl rfl, Or.inr rfl⟩⟩⟩
          exact rl_fine f2 (rl_fine f1 hM)
      · rw [cif_neg ho]
        refine ⟨fun i j e => rl_keep (rl_keep e), fun a b hs => ?_, fun f hf hM => ?_⟩
        · obtain ⟨-, -, -, hs⟩ := hs
          rcases hs h4 with ⟨hy, -⟩ | ⟨-, ⟨ha, hb⟩ | ⟨ha, hb⟩⟩
          · exact absurd hy ho
          · refine rl_keep ?_
            rcases ha with rfl | rfl <;> rcases hb with rfl | rfl
            · rfl
            · exact rl_join
            · exact rl_join.symm
            · rfl
          · rcases ha with rfl | rfl <;> rcases hb with rfl | rfl
            · rfl
            · exact rl_join
            · exact rl_join.symm
            · rfl
        · have f1 : f k = f (145 + k) := hf _ _ ⟨hk, ⟨Or.inl rfl, p1⟩, ⟨Or.inr (Or.inr (Or.inr rfl)), p4⟩, fun _ => Or.inr ⟨ho, Or.inl ⟨Or.inl rfl, Or.inr rfl⟩⟩⟩
          have f2 : f (k + 12) = f (144 + k) := hf _ _ ⟨hk, ⟨Or.inr (Or.inl rfl), p2⟩, ⟨Or.inr (Or.inr (Or.inl rfl)), p3⟩, fun _ => Or.inr ⟨ho, Or.inr ⟨Or.inl rfl, Or.inr rfl⟩⟩⟩
          exact rl_fine f2 (rl_fine f1 hM)
    · rw [cif_neg (show ¬ (gapP τ lv k ∧ gapP τ lv (k + 12) ∧ gapP τ lv (144 + k) ∧ gapP τ lv (145 + k)) from h4)]
      by_cases h1 : gapP τ lv k ∨ gapP τ lv (k + 12) ∨ gapP τ lv (144 + k) ∨ gapP τ lv (145 + k)
      · rw [cif_pos h1]
        obtain ⟨t1, t2, t3⟩ := sq_two hT hk h4 h1
        show (∀ i j, M i = M j → relab M (fsG τ lv k) (snG τ lv k) i = relab M (fsG τ lv k) (snG τ lv k) j) ∧ (∀ a b, SJ τ lv k a b → relab M (fsG τ lv k) (snG τ lv k) a = relab M (fsG τ lv k) (snG τ lv k) b) ∧ (∀ f : Nat → Nat, (∀ a b, SJ τ lv k a b → f a = f b) → (∀ i j, M i = M j → f i = f j) → ∀ i j, relab M (fsG τ lv k) (snG τ lv k) i = relab M (fsG τ lv k) (snG τ lv k) j → f i = f j)
        refine ⟨fun i j e => rl_keep e, fun a b hs => ?_, fun f hf hM => ?_⟩
        · obtain ⟨-, ha, hb, -⟩ := hs
          rcases t3 a ha.1 ha.2 with e1 | e1 <;> rcases t3 b hb.1 hb.2 with e2 | e2 <;> rw [e1, e2]
          · exact rl_join
          · exact rl_join.symm
        · exact rl_fine (hf _ _ ⟨hk, t1, t2, fun g => absurd g h4⟩) hM
      · rw [cif_neg h1]
        refine ⟨fun i j e => e, fun a b hs => ?_, fun f hf hM => hM⟩
        exfalso
        obtain ⟨-, ⟨ha, hg⟩, -, -⟩ := hs
        rcases ha with rfl | rfl | rfl | rfl
        · exact h1 (Or.inl hg)
        · exact h1 (Or.inr (Or.inl hg))
        · exact h1 (Or.inr (Or.inr (Or.inl hg)))
        · exact h1 (Or.inr (Or.inr (Or.inr hg)))
  · rw [cif_neg hk]
    exact ⟨fun i j e => e, fun a b hs => absurd hs.1 hk, fun f hf hM => hM⟩
/-- the lines' names join what squares join, and nothing else -/
theorem star_at {τ : gSt} {lv : Int32} (hT : InvT τ) : ∀ n, (∀ k, k < n → ∀ a b, SJ τ lv k a b → gFold (sqF τ lv) n 0 (fun i => i) a = gFold (sqF τ lv) n 0 (fun i => i) b) ∧ (∀ f : Nat → Nat, (∀ k a b, SJ τ lv k a b → f a = f b) → ∀ i j, gFold (sqF τ lv) n 0 (fun i => i) i = gFold (sqF τ lv) n 0 (fun i => i) j → f i = f j) := by
  intro n
  induction n with
  | zero => exact ⟨fun k hk => by omega, fun f _ i j e => by rw [show i = j from e]⟩
  | succ n ih =>
    rw [gFold_last, Nat.zero_add]
    obtain ⟨s1, s2, s3⟩ := sq_step (lv := lv) (k := n) (M := gFold (sqF τ lv) n 0 (fun i => i)) hT
    refine ⟨fun k hk a b hs => ?_, fun f hf => s3 f (fun a b hs => hf n a b hs) (ih.2 f hf)⟩
    by_cases e : k = n
    · subst e
      exact s2 a b hs
    · exact s1 a b (ih.1 k (by omega) a b hs)
theorem own_tp {τ t : gSt} {lv : Int32} (hT : InvT τ) (h : Tr τ t) {k : Nat} (hk : sqIn τ k) : sqOwn t lv (tp k) ↔ sqOwn τ lv k := by
  obtain ⟨w1, w2, w3, w4, -⟩ := hT
  obtain ⟨k1, k2⟩ := hk
  have e1 : tp k + 1 = tp (k + 12) := (tp_down (by omega)).symm
  have e2 : tp k + 12 = tp (k + 1) := (tp_one (by omega)).symm
  have e3 : tp k + 13 = tp (k + 13) := by unfold tp; omega
  unfold sqOwn
  rw [e1, e2, e3, high_tp h (by omega), h.2.1 k (by omega), h.2.1 (k + 1) (by omega), h.2.1 (k + 12) (by omega), h.2.1 (k + 13) (by omega), Int.add_right_comm (τ.1 0 k).toInt (τ.1 0 (k + 12)).toInt (τ.1 0 (k + 1)).toInt]
theorem SJ_tp {τ t : gSt} {lv : Int32} (hI : Inv τ) (hI' : Inv t) (h : Tr τ t) {k a b : Nat} (hs : SJ τ lv k a b) : SJ t lv (tp k) (gt a) (gt b) := by
  obtain ⟨hk, ⟨ha, ga⟩, ⟨hb, gb⟩, hf⟩ := hs
  have hT := hI.1
  obtain ⟨w1, w2, w3, w4, -⟩ := id hT
  obtain ⟨k1, k2⟩ := id hk
  have k144 : k < 144 := by omega
  have c1 : gt k = 144 + tp k := gt_lo k144
  have c2 : gt (k + 12) = 145 + tp k := by rw [gt_lo (by omega), tp_down (by omega)]; omega
  have c3 : gt (144 + k) = tp k := gt_hi
  have c4 : gt (145 + k) = tp k + 12 := by rw [show 145 + k = 144 + (k + 1) by omega, gt_hi, tp_one (by omega)]
  have sq : ∀ x, inSq k x → inSq (tp k) (gt x) := by
    rintro x (rfl | rfl | rfl | rfl)
    · rw [c1]; exact Or.inr (Or.inr (Or.inl rfl))
    · rw [c2]; exact Or.inr (Or.inr (Or.inr rfl))
    · rw [c3]; exact Or.inl rfl
    · rw [c4]; exact Or.inr (Or.inl rfl)
  refine ⟨⟨?_, ?_⟩, ⟨sq a ha, gap_tp hT h ga⟩, ⟨sq b hb, gap_tp hT h gb⟩, fun g4 => ?_⟩
  · rw [tp_mod k144, h.1.1]; exact k2
  · rw [tp_div k144, h.1.2.1]; exact k1
  · have g4' : all4 τ lv k := by
      obtain ⟨q1, q2, q3, q4⟩ := g4
      refine ⟨?_, ?_, ?_, ?_⟩
      · rw [← gap_iff hI hI' h (show k < 288 by omega), c1]; exact q3
      · rw [← gap_iff hI hI' h (show k + 12 < 288 by omega), c2]; exact q4
      · rw [← gap_iff hI hI' h (show 144 + k < 288 by omega), c3]; exact q1
      · rw [← gap_iff hI hI' h (show 145 + k < 288 by omega), c4]; exact q2
    have u1 : ∀ x, (x = k ∨ x = 144 + k) → (gt x = tp k ∨ gt x = 144 + tp k) := by
      rintro x (rfl | rfl)
      · exact Or.inr c1
      · exact Or.inl c3
    have u2 : ∀ x, (x = k + 12 ∨ x = 145 + k) → (gt x = tp k + 12 ∨ gt x = 145 + tp k) := by
      rintro x (rfl | rfl)
      · exact Or.inr c2
      · exact Or.inl c4
    have u3 : ∀ x, (x = k ∨ x = 145 + k) → (gt x = tp k + 12 ∨ gt x = 144 + tp k) := by
      rintro x (rfl | rfl)
      · exact Or.inr c1
      · exact Or.inl c4
    have u4 : ∀ x, (x = k + 12 ∨ x = 144 + k) → (gt x = tp k ∨ gt x = 145 + tp k) := by
      rintro x (rfl | rfl)
      · exact Or.inr c2
      · exact Or.inl c3
    rw [own_tp hT h hk]
    rcases hf g4' with ⟨ho, ⟨xa, xb⟩ | ⟨xa, xb⟩⟩ | ⟨ho, ⟨xa, xb⟩ | ⟨xa, xb⟩⟩
    · exact Or.inl ⟨ho, Or.inl ⟨u1 a xa, u1 b xb⟩⟩
    · exact Or.inl ⟨ho, Or.inr ⟨u2 a xa, u2 b xb⟩⟩
    · exact Or.inr ⟨ho, Or.inr ⟨u3 a xa, u3 b xb⟩⟩
    · exact Or.inr ⟨ho, Or.inl ⟨u4 a xa, u4 b xb⟩⟩
theorem SJ_lt {τ : gSt} {lv : Int32} {k a b : Nat} (hT : InvT τ) (hs : SJ τ lv k a b) : k < 144 ∧ a < 288 ∧ b < 288 := by
  obtain ⟨w1, w2, w3, w4, -⟩ := hT
  obtain ⟨⟨k1, k2⟩, ha, hb, -⟩ := hs
  exact ⟨by omega, gapP_lt ha.2, gapP_lt hb.2⟩
/-- the lines are the same -/
theorem star_tp {τ t : gSt} {lv : Int32} (hI : Inv τ) (hI' : Inv t) (h : Tr τ t) {i j : Nat} (hi : i < 288) (hj : j < 288) : mStar t lv (gt i) = mStar t lv (gt j) ↔ mStar τ lv i = mStar τ lv j := by
  obtain ⟨a1, a2⟩ := star_at (lv := lv) hI.1 144
  obtain ⟨b1, b2⟩ := star_at (lv := lv) hI'.1 144
  refine ⟨fun e => ?_, fun e => ?_⟩
  · have := b2 (fun x => mStar τ lv (gt x)) (fun k a b hs => a1 (tp k) (tp_lt (SJ_lt hI'.1 hs).1) _ _ (SJ_tp hI' hI (h.symm hI) hs)) (gt i) (gt j) e
    rw [gt_gt hi, gt_gt hj] at this
    exact this
  · exact a2 (fun x => mStar t lv (gt x)) (fun k a b hs => b1 (tp k) (tp_lt (SJ_lt hI.1 hs).1) _ _ (SJ_tp hI hI' h hs)) i j e
