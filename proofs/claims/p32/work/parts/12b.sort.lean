/-! ===== pure: rows of controls; the class sorts ===== -/
def eqR (L : Nat) (o o' : Nat → Int32) : Prop := ∀ j, j < L → o j = o' j
def ltR (L : Nat) (o o' : Nat → Int32) : Prop := ∃ i, i < L ∧ (∀ j, j < i → o j = o' j) ∧ (o i).toInt < (o' i).toInt
theorem ltR.eq {L : Nat} {o o' p : Nat → Int32} (h : ltR L o o') (g : eqR L o' p) : ltR L o p := by
  obtain ⟨i, h1, h2, h3⟩ := h
  exact ⟨i, h1, fun j hj => (h2 j hj).trans (g j (by omega)), by rw [← g i h1]; exact h3⟩
theorem ltR.trans {L : Nat} {o p q : Nat → Int32} (h : ltR L o p) (g : ltR L p q) : ltR L o q := by
  obtain ⟨i, h1, h2, h3⟩ := h
  obtain ⟨k, g1, g2, g3⟩ := g
  rcases Nat.lt_trichotomy i k with c | c | c
  · exact ⟨i, h1, fun j hj => (h2 j hj).trans (g2 j (by omega)), by rw [← g2 i c]; exact h3⟩
  · subst c
    exact ⟨i, h1, fun j hj => (h2 j hj).trans (g2 j hj), by omega⟩
  · exact ⟨k, g1, fun j hj => (h2 j (by omega)).trans (g2 j hj), by rw [h2 k c]; exact g3⟩
theorem ltR.no {L : Nat} {o p : Nat → Int32} (h : ltR L o p) (g : ltR L p o ∨ eqR L p o) : False := by
  obtain ⟨i, h1, h2, h3⟩ := h
  rcases g with ⟨k, g1, g2, g3⟩ | g
  · rcases Nat.lt_trichotomy i k with c | c | c
    · rw [g2 i c] at h3; omega
    · subst c; omega
    · rw [h2 k c] at g3; omega
  · rw [g i h1] at h3; omega
theorem ltR.total {o p : Nat → Int32} : ∀ L, ltR L o p ∨ ltR L p o ∨ eqR L o p := by
  intro L
  induction L with
  | zero => exact Or.inr (Or.inr (fun j hj => by omega))
  | succ L ih =>
    rcases ih with ⟨i, h1, h2, h3⟩ | ⟨i, h1, h2, h3⟩ | h
    · exact Or.inl ⟨i, by omega, h2, h3⟩
    · exact Or.inr (Or.inl ⟨i, by omega, h2, h3⟩)
    · by_cases c : o L = p L
      · exact Or.inr (Or.inr (fun j hj => by
          by_cases e : j = L
          · rw [e]; exact c
          · exact h j (by omega)))
      · rw [teq] at c
        rcases Int.lt_or_gt_of_ne c with g | g
        · exact Or.inl ⟨L, by omega, h, g⟩
        · exact Or.inr (Or.inl ⟨L, by omega, fun j hj => (h j hj).symm, g⟩)
/-- a row whose ends are those of c and whose middle is c's, in some order -/
def RA (m : Nat) (A c : Nat → Int32) : Prop := A 0 = c 0 ∧ A (m + 1) = c (m + 1) ∧ (∀ j, j < m → ∃ i, i < m ∧ A (j + 1) = c (i + 1)) ∧ (∀ i, i < m → ∃ j, j < m ∧ c (i + 1) = A (j + 1)) ∧ (∀ i j, i < m → j < m → A (i + 1) = A (j + 1) → i = j)
theorem RA.rf {m : Nat} {c : Nat → Int32} (h : ∀ i j, i < j → j < m + 2 → c i ≠ c j) : RA m c c := by
  refine ⟨rfl, rfl, fun j hj => ⟨j, hj, rfl⟩, fun i hi => ⟨i, hi, rfl⟩, fun i j hi hj e => ?_⟩
  rcases Nat.lt_trichotomy i j with q | q | q
  · exact absurd e (h (i + 1) (j + 1) (by omega) (by omega))
  · exact q
  · exact absurd e.symm (h (j + 1) (i + 1) (by omega) (by omega))
theorem RA.congr {m : Nat} {A B c : Nat → Int32} (h : RA m A c) (e : eqR (m + 2) B A) : RA m B c := by
  obtain ⟨h1, h2, h3, h4, h5⟩ := h
  refine ⟨(e 0 (by omega)).trans h1, (e (m + 1) (by omega)).trans h2, fun j hj => ?_, fun i hi => ?_, fun i j hi hj q => ?_⟩
  · obtain ⟨i, a, b⟩ := h3 j hj
    exact ⟨i, a, (e (j + 1) (by omega)).trans b⟩
  · obtain ⟨j, a, b⟩ := h4 i hi
    exact ⟨j, a, b.trans (e (j + 1) (by omega)).symm⟩
  · rw [e (i + 1) (by omega), e (j + 1) (by omega)] at q
    exact h5 i j hi hj q
/-- a row with its middle at other places -/
theorem RA.at {m : Nat} {A B c : Nat → Int32} {p : Nat → Nat} (h : RA m A c) (h0 : B 0 = A 0) (h1 : B (m + 1) = A (m + 1)) (hB : ∀ j, j < m → B (j + 1) = A (p j + 1)) (hp : ∀ j, j < m → p j < m) (hs : ∀ i, i < m → ∃ j, j < m ∧ p j = i) (hi : ∀ i j, i < m → j < m → p i = p j → i = j) : RA m B c := by
  obtain ⟨a1, a2, a3, a4, a5⟩ := h
  refine ⟨h0.trans a1, h1.trans a2, fun j hj => ?_, fun i hi' => ?_, fun i j hi' hj q => ?_⟩
  · obtain ⟨i, b1, b2⟩ := a3 (p j) (hp j hj)
    exact ⟨i, b1, (hB j hj).trans b2⟩
  · obtain ⟨j, b1, b2⟩ := a4 i hi'
    obtain ⟨k, k1, k2⟩ := hs j b1
    exact ⟨k, k1, by rw [hB k k1, k2]; exact b2⟩
  · rw [hB i hi', hB j hj] at q
    exact hi i j hi' hj (a5 _ _ (hp i hi') (hp j hj) q)
theorem RA.swap {m x y : Nat} {A c : Nat → Int32} (h : RA m A c) (hx : x < m) (hy : y < m) : RA m (swp A (x + 1) (y + 1)) c := by
  refine h.at (p := fun j => if j = y then x else if j = x then y else j) ?_ ?_ (fun j hj => ?_) (fun j hj => ?_) (fun i hi => ?_) (fun i j hi hj q => ?_)
  · unfold swp
    rw [if_neg (by omega), if_neg (by omega)]
  · unfold swp
    rw [if_neg (by omega), if_neg (by omega)]
  · unfold swp
    try dsimp only
    by_cases e : j = y
    · rw [if_pos (by omega), if_pos e]
    · rw [if_neg (by omega), if_neg e]
      by_cases e2 : j = x
      · rw [if_pos (by omega), if_pos e2]
      · rw [if_neg (by omega), if_neg e2]
  · try dsimp only
    split
    · exact hx
    · split
      · exact hy
      · exact hj
  · try dsimp only
    by_cases e : i = x
    · exact ⟨y, hy, by rw [if_pos rfl, e]⟩
    · by_cases e2 : i = y
      · refine ⟨x, hx, ?_⟩
        by_cases e3 : x = y
        · rw [if_pos e3]; omega
        · rw [if_neg e3, if_pos rfl, e2]
      · exact ⟨i, hi, by rw [if_neg e2, if_neg e]⟩
  · try dsimp only at q
    repeat' (split at q)
    all_goals omega
/-- the order t of the row A -/
def ordR (m : Nat) (A : Nat → Int32) (t : Nat) : Nat → Int32 := fun j => if 1 ≤ j ∧ j ≤ m then A (pT m t j) else A j
theorem ordR_mid {m t j : Nat} {A : Nat → Int32} (hj : j < m) : ordR m A t (j + 1) = A (pT m t (j + 1)) := if_pos ⟨by omega, by omega⟩
theorem ordR_0 {m t : Nat} {A : Nat → Int32} : ordR m A t 0 = A 0 := if_neg (by omega)
theorem ordR_last {m t : Nat} {A : Nat → Int32} : ordR m A t (m + 1) = A (m + 1) := if_neg (by omega)
theorem ordR_RA {m t : Nat} {A c : Nat → Int32} (h : RA m A c) (hm : m < 5) (ht : t < nT m) : RA m (ordR m A t) c := by
  have hin := pT_in m hm t ht
  refine h.at (p := fun j => pT m t (j + 1) - 1) ordR_0 ordR_last (fun j hj => ?_) (fun j hj => ?_) (fun i hi => ?_) (fun i j hi hj q => ?_)
  · rw [ordR_mid hj]
    have := hin j hj
    try dsimp only
    rw [show pT m t (j + 1) - 1 + 1 = pT m t (j + 1) by omega]
  · have := hin j hj
    try dsimp only
    omega
  · obtain ⟨j, j1, j2⟩ := pT_sur m hm t ht i hi
    exact ⟨j, j1, by (try dsimp only); omega⟩
  · have a := hin i hi
    have b := hin j hj
    try dsimp only at q
    exact pT_inj m hm t ht i hi j hj (by omega)
theorem RA.cover {m : Nat} {o A c : Nat → Int32} (hm : m < 5) (h : RA m o c) (g : RA m A c) : ∃ t, t < nT m ∧ eqR (m + 2) o (ordR m A t) := by
  obtain ⟨a1, a2, a3, a4, a5⟩ := h
  obtain ⟨b1, b2, b3, b4, b5⟩ := g
  obtain ⟨t, t1, t2⟩ := _root_.Jvm.Pilot.CSpurlineLaw_law_r9100_9c6fe0.cover (o := o) (b := A) hm (fun j hj => by
    obtain ⟨i, i1, i2⟩ := a3 j hj
    obtain ⟨k, k1, k2⟩ := b4 i i1
    exact ⟨k, k1, i2.trans k2⟩) a5
  refine ⟨t, t1, fun j hj => ?_⟩
  match j, hj with
  | 0, _ => rw [ordR_0, a1, b1]
  | j + 1, hj =>
    by_cases e : j < m
    · rw [ordR_mid e]
      exact t2 j e
    · rw [show j = m by omega, ordR_last, a2, b2]
def srt (m : Nat) (A : Nat → Int32) : Prop := ∀ i j, 1 ≤ i → i < j → j ≤ m → (A i).toInt < (A j).toInt
theorem ordR_lt {m t t' : Nat} {A : Nat → Int32} (hA : srt m A) (hm : m < 5) (ht : t < nT m) (h : t' < t) : ltR (m + 2) (ordR m A t') (ordR m A t) := by
  obtain ⟨i, i1, i2, i3⟩ := pT_lex m hm t ht t' h
  have a := pT_in m hm t ht i i1
  have b := pT_in m hm t' (by omega) i i1
  refine ⟨i + 1, by omega, fun j hj => ?_, ?_⟩
  · match j, hj with
    | 0, _ => rw [ordR_0, ordR_0]
    | j + 1, hj => rw [ordR_mid (by omega), ordR_mid (by omega), i2 j (by omega)]
  · rw [ordR_mid i1, ordR_mid i1]
    exact hA _ _ b.1 i3 a.2
/-- the class changes its row of controls alone -/
def Kq (s s' : gSt) : Prop := (∀ r, r ≠ 14 → s'.1 r = s.1 r) ∧ ∀ k, s'.2 k = s.2 k
theorem Kq.rf {s : gSt} : Kq s s := ⟨fun _ _ => rfl, fun _ => rfl⟩
theorem Kq.sa {s u : gSt} {f : Nat → Int32} (h : Kq s u) : Kq s (g_sa u 14 f) := ⟨fun r hr => by rw [sa_1, if_neg hr]; exact h.1 r hr, h.2⟩
theorem Kq.trans {a b c : gSt} (h : Kq a b) (g : Kq b c) : Kq a c := ⟨fun r hr => (g.1 r hr).trans (h.1 r hr), fun k => (g.2 k).trans (h.2 k)⟩
theorem len14 : gLen 14 = 6 ∧ gLen 15 = 6 ∧ gLen 12 = 144 ∧ gLen 13 = 144 := ⟨rfl, rfl, rfl, rfl⟩
theorem get14 {s : gSt} {v : Int32} {j : Nat} (hv : v.toInt = j) (hj : j < 6) : gget s 14 v = s.1 14 j := by
  rw [gget_in (by omega) (by rw [len14.1]; omega), hv]
  rfl
theorem swap_c {s : gSt} {v1 v2 : Int32} {i j : Nat} (h1 : v1.toInt = i) (hi : i < 6) (h2 : v2.toInt = j) (hj : j < 6) : f_X4_swap s v1 v2 = g_sa s 14 (swp (s.1 14) i j) := by
  unfold f_X4_swap
  rw [get14 h2 hj, get14 h1 hi, gput_in (by omega) (by rw [len14.1]; omega), gput_in (by omega) (by rw [len14.1]; omega), sa_sa, h1, h2]
  refine congrArg _ (funext fun x => ?_)
  rw [sa_1, if_pos rfl, upd_at, upd_at]
  rfl
theorem sort_c {s : gSt} {N m : Nat} {c : Nat → Int32} (hN : 200 < N) (h5 : (s.2 5).toInt = m + 2) (hm : m < 5) (hA : RA m (s.1 14) c) : Ok (fun s' => Kq s s' ∧ RA m (s'.1 14) c ∧ srt m (s'.1 14)) (f_X4_sortBetweenEnds N s) := by
  have e2 : ∀ u, Kq s u → (u.2 5 - 2).toInt = m := fun u hu => by rw [hu.2 5, tsub (by rw [h5, tl2]; omega), h5, tl2]; omega
  unfold f_X4_sortBetweenEnds
  refine gLoop2_ok (fun k (v : Int32) u => ∃ r : Nat, v.toInt = r + 1 ∧ r + 1 ≤ max 1 m ∧ (k : Int) = 5 - r ∧ Kq s u ∧ RA m (u.1 14) c ∧ ∀ i j, 1 ≤ i → i < j → j ≤ m → m < r + j → (u.1 14 i).toInt < (u.1 14 j).toInt) ?_ N 5 1 s (by omega) ⟨0, rfl, by omega, by omega, Kq.rf, hA, fun i j _ _ h1 h2 => by omega⟩
  intro k v u self ⟨r, hv, hr, hk, hK, hR, hS⟩ ih
  by_cases c1 : u.2 5 - 2 ≤ v
  · refine okt c1 (Ok.some ⟨hK, hR, fun i j h1 h2 h3 => hS i j h1 h2 h3 ?_⟩)
    rw [tle, e2 u hK, hv] at c1
    omega
  · refine okf c1 ?_
    rw [tle, e2 u hK, hv] at c1
    have e1 := inc1 (v := v) (n := 5) (by omega) (by omega)
    refine gLoop2_ok (fun k2 (v2 : Int32) w => ∃ x : Nat, v2.toInt = x ∧ 1 ≤ x ∧ x ≤ m ∧ (k2 : Int) = 5 - x ∧ Kq s w ∧ RA m (w.1 14) c ∧ ((x + r ≤ m ∧ (∀ i, 1 ≤ i → i < x → (w.1 14 i).toInt < (w.1 14 x).toInt) ∧ ∀ i j, 1 ≤ i → i < j → j ≤ m → m < r + j → (w.1 14 i).toInt < (w.1 14 j).toInt) ∨ (m ≤ x + r ∧ ∀ i j, 1 ≤ i → i < j → j ≤ m → m < r + 1 + j → (w.1 14 i).toInt < (w.1 14 j).toInt))) ?_ N 4 1 u (by omega) ⟨1, rfl, by omega, by omega, by omega, hK, hR, Or.inl ⟨by omega, fun i h1 h2 => by omega, hS⟩⟩
    intro k2 v2 w self2 ⟨x, hx, hx1, hxm, hk2, hKw, hRw, hI⟩ ih2
    by_cases c2 : w.2 5 - 2 ≤ v2
    · refine okt c2 (ih (k - 1) (v + 1) w (by omega) ⟨r + 1, by omega, by omega, by omega, hKw, hRw, ?_⟩)
      rw [tle, e2 w hKw, hx] at c2
      rcases hI with ⟨q1, q2, q3⟩ | ⟨q1, q2⟩
      · intro i j h1 h2 h3 h4
        by_cases e : j = x
        · rw [e]; exact q2 i h1 (by omega)
        · exact q3 i j h1 h2 h3 (by omega)
      · exact q2
    · refine okf c2 (okz ?_)
      rw [tle, e2 w hKw, hx] at c2
      have e3 := inc1 (v := v2) (n := 5) (by omega) (by omega)
      rw [get14 hx (by omega), get14 (j := x + 1) (by omega) (by omega)]
      have ne : (w.1 14 x).toInt ≠ (w.1 14 (x + 1)).toInt := fun e => by
        have := hRw.2.2.2.2 (x - 1) x (by omega) (by omega) (by rw [show x - 1 + 1 = x by omega]; exact teq.mpr e)
        omega
      by_cases c3 : w.1 14 x ≤ w.1 14 (x + 1)
      · refine okt c3 (ih2 (k2 - 1) (v2 + 1) w (by omega) ⟨x + 1, by omega, by omega, by omega, by omega, hKw, hRw, ?_⟩)
        rw [tle] at c3
        rcases hI with ⟨q1, q2, q3⟩ | ⟨q1, q2⟩
        · by_cases e : x + r = m
          · refine Or.inr ⟨by omega, fun i j h1 h2 h3 h4 => ?_⟩
            by_cases e2 : j = x
            · rw [e2]; exact q2 i h1 (by omega)
            · exact q3 i j h1 h2 h3 (by omega)
          · refine Or.inl ⟨by omega, fun i h1 h2 => ?_, q3⟩
            by_cases e2 : i = x
            · rw [e2]; omega
            · have := q2 i h1 (by omega)
              omega
        · exact Or.inr ⟨by omega, q2⟩
      · refine okf c3 ?_
        rw [tle] at c3
        rw [swap_c hx (by omega) (show (v2 + 1).toInt = (x + 1 : Nat) by omega) (by omega)]
        have hRs : RA m (swp (w.1 14) x (x + 1)) c := by
          have := hRw.swap (x := x - 1) (y := x) (by omega) (by omega)
          rw [show x - 1 + 1 = x by omega] at this
          exact this
        rcases hI with ⟨q1, q2, q3⟩ | ⟨q1, q2⟩
        · have hlt : x + r + 1 ≤ m := by
            rcases Nat.lt_or_ge (x + r) m with g | g
            · omega
            · have := q3 x (x + 1) hx1 (by omega) (by omega) (by omega)
              omega
          refine ih2 (k2 - 1) (v2 + 1) _ (by omega) ⟨x + 1, by omega, by omega, by omega, by omega, hKw.sa, hRs, Or.inl ⟨by omega, fun i h1 h2 => ?_, fun i j h1 h2 h3 h4 => ?_⟩⟩
          · show (swp (w.1 14) x (x + 1) i).toInt < (swp (w.1 14) x (x + 1) (x + 1)).toInt
            unfold swp
            rw [if_neg (by omega), if_pos rfl]
            by_cases e2 : i = x
            · rw [if_pos e2]; omega
            · rw [if_neg e2]; exact q2 i h1 (by omega)
          · show (swp (w.1 14) x (x + 1) i).toInt < (swp (w.1 14) x (x + 1) j).toInt
            unfold swp
            rw [if_neg (show ¬ j = x + 1 by omega), if_neg (show ¬ j = x by omega)]
            by_cases e2 : i = x + 1
            · rw [if_pos e2]; exact q3 x j hx1 (by omega) h3 h4
            · rw [if_neg e2]
              by_cases e3 : i = x
              · rw [if_pos e3]; exact q3 (x + 1) j (by omega) (by omega) h3 h4
              · rw [if_neg e3]; exact q3 i j h1 h2 h3 h4
        · have := q2 x (x + 1) hx1 (by omega) (by omega) (by omega)
          omega
