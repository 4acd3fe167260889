/-! ===== pure: turned maps: hill, setGround ===== -/
/-- a count doesn't ask in which order it is made -/
theorem cnt_perm {π : Nat → Nat} {n : Nat} (h1 : ∀ i, i < n → π i < n) (h2 : ∀ i, i < n → π (π i) = i) (p : Nat → Prop) : cnt (fun r => p (π r)) n = cnt p n := by
  have inj : ∀ i j, i < n → j < n → π i = π j → i = j := fun i j hi hj e => by rw [← h2 i hi, ← h2 j hj, e]
  have h := classes (G := p) (Q := fun _ => True) (f := π) (N := n) n (fun i hi _ => h1 i hi) (fun _ _ _ _ _ _ _ => Iff.rfl)
  have e1 : cnt (fun r => ∃ i, i < n ∧ p i ∧ π i = r ∧ True) n = cnt (fun r => p (π r)) n := cnt_congr n (fun r hr => by
    refine ⟨?_, fun g => ⟨π r, h1 r hr, g, h2 r hr, trivial⟩⟩
    rintro ⟨i, hi, g, e, -⟩
    rw [← e, h2 i hi]
    exact g)
  have e2 : cnt (fun i => p i ∧ True ∧ ∀ j, j < i → p j → π j ≠ π i) n = cnt p n := cnt_congr n (fun i hi => ⟨fun g => g.1, fun g => ⟨g, trivial, fun j hj _ e => by
    have := inj j i (by omega) hi e
    omega⟩⟩)
  rw [← e1, h, e2]
theorem gFold_last {A : Type} {f : Nat → A → A} : ∀ (n k : Nat) (a : A), gFold f (n + 1) k a = f (k + n) (gFold f n k a) := by
  intro n
  induction n with
  | zero => intro k a; rfl
  | succ n ih =>
    intro k a
    rw [gFold_succ, ih (k + 1) (f k a), gFold_succ, show k + 1 + n = k + (n + 1) by omega]
/-- a walk over a row that looks at one place at a time -/
theorem fold_pt {F : Nat → Int32 × (Nat → Int32) → Int32 × (Nat → Int32)} {P : Nat → Int32 → Prop} {g f0 : Nat → Int32} (h1 : ∀ k a, P k (a.2 k) → F k a = (a.1 + 1, upd a.2 k (g k))) (h0 : ∀ k a, ¬ P k (a.2 k) → F k a = a) : ∀ n, n ≤ 144 → (gFold F n 0 (0, f0)).1 = Int32.ofNat (cnt (fun i => P i (f0 i)) n) ∧ ∀ j, (j < n → P j (f0 j) → (gFold F n 0 (0, f0)).2 j = g j) ∧ (¬ (j < n ∧ P j (f0 j)) → (gFold F n 0 (0, f0)).2 j = f0 j) := by
  intro n
  induction n with
  | zero => intro _; exact ⟨rfl, fun j => ⟨fun hj => by omega, fun _ => rfl⟩⟩
  | succ n ih =>
    intro hn
    obtain ⟨a1, a2⟩ := ih (by omega)
    rw [gFold_last, Nat.zero_add]
    generalize gFold F n 0 (0, f0) = a at a1 a2
    have en : a.2 n = f0 n := (a2 n).2 (fun e => by omega)
    by_cases c : P n (f0 n)
    · rw [h1 n a (by rw [en]; exact c)]
      refine ⟨?_, fun j => ⟨fun hj hp => ?_, fun hj => ?_⟩⟩
      · show a.1 + 1 = _
        rw [a1, cnt_pos (p := fun i => P i (f0 i)) c]
        exact ofn_one (by have := cnt_le (p := fun i => P i (f0 i)) n; omega)
      · show upd a.2 n (g n) j = g j
        rw [upd_at]
        by_cases q : j = n
        · rw [if_pos q, q]
        · rw [if_neg q]
          exact (a2 j).1 (by omega) hp
      · show upd a.2 n (g n) j = f0 j
        rw [upd_at]
        by_cases q : j = n
        · subst q
          exact absurd ⟨by omega, c⟩ hj
        · rw [if_neg q]
          exact (a2 j).2 (fun e => hj ⟨by omega, e.2⟩)
    · rw [h0 n a (by rw [en]; exact c)]
      refine ⟨?_, fun j => ⟨fun hj hp => ?_, fun hj => ?_⟩⟩
      · rw [a1, cnt_neg (p := fun i => P i (f0 i)) c]
      · by_cases q : j = n
        · subst q
          exact absurd hp c
        · exact (a2 j).1 (by omega) hp
      · exact (a2 j).2 (fun e => hj ⟨by omega, e.2⟩)
/-- two such walks, over rows that are turned -/
theorem fold_tp {F F' : Nat → Int32 × (Nat → Int32) → Int32 × (Nat → Int32)} {P P' : Nat → Int32 → Prop} {g g' f0 f0' : Nat → Int32} (h1 : ∀ k a, P k (a.2 k) → F k a = (a.1 + 1, upd a.2 k (g k))) (h0 : ∀ k a, ¬ P k (a.2 k) → F k a = a) (h1' : ∀ k a, P' k (a.2 k) → F' k a = (a.1 + 1, upd a.2 k (g' k))) (h0' : ∀ k a, ¬ P' k (a.2 k) → F' k a = a) (hP : ∀ k v, k < 144 → (P' (tp k) v ↔ P k v)) (hg : ∀ k, k < 144 → g' (tp k) = g k) (hf : ∀ k, k < 144 → f0' (tp k) = f0 k) : (gFold F' 144 0 (0, f0')).1 = (gFold F 144 0 (0, f0)).1 ∧ ∀ k, k < 144 → (gFold F' 144 0 (0, f0')).2 (tp k) = (gFold F 144 0 (0, f0)).2 k := by
  obtain ⟨a1, a2⟩ := fold_pt (f0 := f0) h1 h0 144 (Nat.le_refl _)
  obtain ⟨b1, b2⟩ := fold_pt (f0 := f0') h1' h0' 144 (Nat.le_refl _)
  refine ⟨?_, fun k hk => ?_⟩
  · rw [a1, b1, ← cnt_perm (π := tp) (fun i hi => tp_lt hi) (fun i hi => tp_tp hi) (fun i => P' i (f0' i))]
    exact congrArg Int32.ofNat (cnt_congr 144 (fun i hi => by rw [hf i hi]; exact hP i _ hi))
  · by_cases c : P k (f0 k)
    · rw [(a2 k).1 hk c, (b2 (tp k)).1 (tp_lt hk) (by rw [hf k hk]; exact (hP k _ hk).mpr c), hg k hk]
    · rw [(a2 k).2 (fun e => c e.2), (b2 (tp k)).2 (fun e => c ((hP k _ hk).mp (by rw [← hf k hk]; exact e.2))), hf k hk]
theorem jmax_comm {x y : Int32} : jmax x y = jmax y x := by
  rw [teq, tmax, tmax]
  omega
theorem hillV_tp {x y top fall : Int32} {k : Nat} (hk : k < 144) : hillV y x top fall (tp k) = hillV x y top fall k := by
  unfold hillV
  rw [tp_mod hk, tp_div hk, jmax_comm]
theorem Tr.h {τ t : gSt} (h : Tr τ t) {f f' : Nat → Int32} (hf : ∀ k, k < 144 → f' (tp k) = f k) : Tr (g_sa τ 0 f) (g_sa t 0 f') := by
  obtain ⟨hi, hh, hg, hc, hr⟩ := h
  refine ⟨hi, hf, hg, hc, fun r r3 r11 => ?_⟩
  rw [sa_1, if_neg (by omega), sa_1, if_neg (by omega)]
  exact hr r r3 r11
theorem Tr.g {τ t : gSt} (h : Tr τ t) {f f' : Nat → Int32} (hf : ∀ k, k < 144 → f' (tp k) = f k) : Tr (g_sa τ 1 f) (g_sa t 1 f') := by
  obtain ⟨hi, hh, hg, hc, hr⟩ := h
  refine ⟨hi, hh, hf, hc, fun r r3 r11 => ?_⟩
  rw [sa_1, if_neg (by omega), sa_1, if_neg (by omega)]
  exact hr r r3 r11
theorem hill_n1 {τ : gSt} {N : Nat} {x y top fall : Int32} (hI : Inv τ) (hm : ¬ onMap τ x y) : f_X10_hill N τ x y top fall = some (0, g_sf τ 6 1) := by
  have hT := hI.1
  unfold f_X10_hill
  simp only [gJoin0, gJoin1, gJoin2]
  rw [cell_no hT hm, asked2_0, asked2_0]
  simp only [if_true, ite_self]
theorem hill_n2 {τ : gSt} {N : Nat} {x y top fall : Int32} (hI : Inv τ) (hm : onMap τ x y) (h : ¬ ((0 ≤ top.toInt ∧ top.toInt ≤ 255) ∧ (1 ≤ fall.toInt ∧ fall.toInt ≤ 255))) : f_X10_hill N τ x y top fall = some (0, g_sf τ 6 2) := by
  have hT := hI.1
  unfold f_X10_hill
  simp only [gJoin0, gJoin1, gJoin2]
  rw [cell_yes hT hm, asked2_1 one_ne]
  by_cases ht : 0 ≤ top.toInt ∧ top.toInt ≤ 255
  · rw [in_yes (x := top) (by rw [tl0]; exact ht.1) (by rw [tl255]; exact ht.2), if_neg one_ne, in_no (x := fall) (by rw [tl1, tl255]; omega), if_pos rfl, if_pos rfl]
  · rw [in_no (x := top) (by rw [tl0, tl255]; omega), if_pos rfl, if_pos rfl]
theorem sym_hill {τ t : gSt} {N : Nat} {x y top fall : Int32} (hI : Inv τ) (hI' : Inv t) (hN : 144 < N) (h : Tr τ t) : SymR (f_X10_hill N τ x y top fall) (f_X10_hill N t y x top fall) := by
  by_cases hm : onMap τ x y
  · have hm' := h.map.mpr hm
    by_cases c : (0 ≤ top.toInt ∧ top.toInt ≤ 255) ∧ (1 ≤ fall.toInt ∧ fall.toInt ≤ 255)
    · rw [hill_m hI.1 hN hm c.1 c.2, hill_m hI'.1 hN hm' c.1 c.2]
      have hF : ∀ (w h x y : Int32) (k : Nat) (a : Int32 × (Nat → Int32)), ((((k % 12 : Nat) : Int) < w.toInt ∧ ((k / 12 : Nat) : Int) < h.toInt) ∧ ¬ hillV x y top fall k ≤ a.2 k → hillF w h x y top fall k a = (a.1 + 1, upd a.2 k (hillV x y top fall k))) ∧ (¬ ((((k % 12 : Nat) : Int) < w.toInt ∧ ((k / 12 : Nat) : Int) < h.toInt) ∧ ¬ hillV x y top fall k ≤ a.2 k) → hillF w h x y top fall k a = a) := fun w h x y k a => ⟨fun g => if_pos g, fun g => if_neg g⟩
      obtain ⟨g1, g2⟩ := fold_tp (F := hillF (τ.2 0) (τ.2 1) x y top fall) (F' := hillF (t.2 0) (t.2 1) y x top fall) (P := fun k v => (((k % 12 : Nat) : Int) < (τ.2 0).toInt ∧ ((k / 12 : Nat) : Int) < (τ.2 1).toInt) ∧ ¬ hillV x y top fall k ≤ v) (P' := fun k v => (((k % 12 : Nat) : Int) < (t.2 0).toInt ∧ ((k / 12 : Nat) : Int) < (t.2 1).toInt) ∧ ¬ hillV y x top fall k ≤ v) (g := hillV x y top fall) (g' := hillV y x top fall) (f0 := τ.1 0) (f0' := t.1 0) (fun k a => (hF _ _ _ _ k a).1) (fun k a => (hF _ _ _ _ k a).2) (fun k a => (hF _ _ _ _ k a).1) (fun k a => (hF _ _ _ _ k a).2) (fun k v hk => by rw [tp_mod hk, tp_div hk, hillV_tp hk, h.1.1, h.1.2.1, and_comm (a := ((k / 12 : Nat) : Int) < (τ.2 1).toInt)]) (fun k hk => hillV_tp hk) h.2.1
      exact SymR.yes ((h.six (x := 0) (y := 0)).h g2) rfl g1.symm
    · rw [hill_n2 hI hm c, hill_n2 hI' hm' c]
      exact SymR.no h
  · rw [hill_n1 hI hm, hill_n1 hI' (fun e => hm (h.map.mp e))]
    exact SymR.no h
theorem ground_n1 {τ : gSt} {N : Nat} {x y x2 y2 g : Int32} (hI : Inv τ) (h : ¬ (onMap τ x y ∧ onMap τ x2 y2)) : f_X10_setGround N τ x y x2 y2 g = some (0, g_sf τ 6 1) := by
  have hT := hI.1
  unfold f_X10_setGround
  simp only [gJoin0, gJoin1, gJoin2, asked2_0, if_true, ite_self]
  by_cases h1 : onMap τ x y
  · rw [cell_no hT (fun h2 => h ⟨h1, h2⟩), if_pos rfl, ite_self]
  · rw [cell_no hT h1, if_pos rfl]
theorem ground_n2 {τ : gSt} {N : Nat} {x y x2 y2 g : Int32} (hI : Inv τ) (h : onMap τ x y ∧ onMap τ x2 y2) (hn : ¬ ((x.toInt ≤ x2.toInt ∧ y.toInt ≤ y2.toInt) ∧ 0 ≤ g.toInt ∧ g.toInt ≤ 4)) : f_X10_setGround N τ x y x2 y2 g = some (0, g_sf τ 6 2) := by
  have hT := hI.1
  unfold f_X10_setGround
  simp only [gJoin0, gJoin1, gJoin2]
  rw [cell_yes hT h.1, cell_yes hT h.2, if_neg one_ne, if_neg one_ne]
  simp only [asked2_1 one_ne, if_true]
  by_cases i1 : x2 < x
  · rw [if_pos i1]
  rw [if_neg i1]
  by_cases i2 : y2 < y
  · rw [if_pos i2]
  rw [if_neg i2]
  rw [tlt] at i1 i2
  rw [in_no (x := g) (by rw [tl0, tl4]; omega), if_pos rfl]
theorem sym_setGround {τ t : gSt} {N : Nat} {x y x2 y2 g : Int32} (hI : Inv τ) (hI' : Inv t) (hN : 144 < N) (h : Tr τ t) : SymR (f_X10_setGround N τ x y x2 y2 g) (f_X10_setGround N t y x y2 x2 g) := by
  by_cases hm : onMap τ x y ∧ onMap τ x2 y2
  · have hm' : onMap t y x ∧ onMap t y2 x2 := ⟨h.map.mpr hm.1, h.map.mpr hm.2⟩
    by_cases c : (x.toInt ≤ x2.toInt ∧ y.toInt ≤ y2.toInt) ∧ 0 ≤ g.toInt ∧ g.toInt ≤ 4
    · rw [ground_m hI.1 hN hm.1 hm.2 c.1.1 c.1.2 c.2, ground_m hI'.1 hN hm'.1 hm'.2 c.1.2 c.1.1 c.2]
      have hF : ∀ (x y x2 y2 : Int32) (k : Nat) (a : Int32 × (Nat → Int32)), (((x.toInt ≤ ((k % 12 : Nat) : Int) ∧ ((k % 12 : Nat) : Int) ≤ x2.toInt) ∧ y.toInt ≤ ((k / 12 : Nat) : Int) ∧ ((k / 12 : Nat) : Int) ≤ y2.toInt) ∧ a.2 k ≠ g → groundF x y x2 y2 g k a = (a.1 + 1, upd a.2 k g)) ∧ (¬ (((x.toInt ≤ ((k % 12 : Nat) : Int) ∧ ((k % 12 : Nat) : Int) ≤ x2.toInt) ∧ y.toInt ≤ ((k / 12 : Nat) : Int) ∧ ((k / 12 : Nat) : Int) ≤ y2.toInt) ∧ a.2 k ≠ g) → groundF x y x2 y2 g k a = a) := fun x y x2 y2 k a => ⟨fun e => if_pos e, fun e => if_neg e⟩
      obtain ⟨g1, g2⟩ := fold_tp (F := groundF x y x2 y2 g) (F' := groundF y x y2 x2 g) (P := fun k v => ((x.toInt ≤ ((k % 12 : Nat) : Int) ∧ ((k % 12 : Nat) : Int) ≤ x2.toInt) ∧ y.toInt ≤ ((k / 12 : Nat) : Int) ∧ ((k / 12 : Nat) : Int) ≤ y2.toInt) ∧ v ≠ g) (P' := fun k v => ((y.toInt ≤ ((k % 12 : Nat) : Int) ∧ ((k % 12 : Nat) : Int) ≤ y2.toInt) ∧ x.toInt ≤ ((k / 12 : Nat) : Int) ∧ ((k / 12 : Nat) : Int) ≤ x2.toInt) ∧ v ≠ g) (g := fun _ => g) (g' := fun _ => g) (f0 := τ.1 1) (f0' := t.1 1) (fun k a => (hF _ _ _ _ k a).1) (fun k a => (hF _ _ _ _ k a).2) (fun k a => (hF _ _ _ _ k a).1) (fun k a => (hF _ _ _ _ k a).2) (fun k v hk => by rw [tp_mod hk, tp_div hk, and_comm (a := y.toInt ≤ ((k / 12 : Nat) : Int) ∧ ((k / 12 : Nat) : Int) ≤ y2.toInt)]) (fun k hk => rfl) h.2.2.1
      exact SymR.yes ((h.six (x := 0) (y := 0)).g g2) rfl g1.symm
    · rw [ground_n2 hI hm c, ground_n2 hI' hm' (fun e => c ⟨⟨e.1.2, e.1.1⟩, e.2⟩)]
      exact SymR.no h
  · rw [ground_n1 hI hm, ground_n1 hI' (fun e => hm ⟨h.map.mp e.1, h.map.mp e.2⟩)]
    exact SymR.no h
