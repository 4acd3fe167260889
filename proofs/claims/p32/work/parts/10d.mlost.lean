/-! ===== pure: the reference's best splits and lost times ===== -/
def mt (A : Nat → Nat → Int32) (i : Nat) (f t : Int32) (g : Nat) : Prop := cR A i g = f ∧ cR A i (g + 1) = t
def sbF (A : Nat → Nat → Int32) (i : Nat) (f t : Int32) : Nat → Int32
  | 0 => -1
  | g + 1 => if cR A i g = f then if cR A i (g + 1) = t then spl A i g else sbF A i f t g else sbF A i f t g
theorem sb_hit {A : Nat → Nat → Int32} {i g : Nat} {f t : Int32} (h : mt A i f t g) : sbF A i f t (g + 1) = spl A i g := by
  show (if cR A i g = f then if cR A i (g + 1) = t then spl A i g else sbF A i f t g else sbF A i f t g) = _
  rw [if_pos h.1, if_pos h.2]
theorem sb_miss {A : Nat → Nat → Int32} {i g : Nat} {f t : Int32} (h : ¬ mt A i f t g) : sbF A i f t (g + 1) = sbF A i f t g := by
  show (if cR A i g = f then if cR A i (g + 1) = t then spl A i g else sbF A i f t g else sbF A i f t g) = _
  by_cases c : cR A i g = f
  · rw [if_pos c, if_neg (fun e => h ⟨c, e⟩)]
  · rw [if_neg c]
theorem sb_none {A : Nat → Nat → Int32} {i : Nat} {f t : Int32} : ∀ m, (∀ g, g < m → ¬ mt A i f t g) → sbF A i f t m = -1 := by
  intro m
  induction m with
  | zero => intro _; rfl
  | succ m ih =>
    intro h
    rw [sb_miss (h m (by omega))]
    exact ih (fun g hg => h g (by omega))
theorem mt_one {A : Nat → Nat → Int32} {i g g' : Nat} {f t : Int32} (hA : RF A i) (hg : g < lL A i) (h : mt A i f t g) (hl : g' < g) : ¬ mt A i f t g' := fun e => hA.2.2.2.2.2.2.1 g' g hl hg (e.1.trans h.1.symm)
theorem sb_first {A : Nat → Nat → Int32} {i g m : Nat} {f t : Int32} (hA : RF A i) (hm : m + 1 ≤ lL A i) (h : mt A i f t g) : ∀ d, g + 1 + d ≤ m → sbF A i f t (g + 1 + d) = spl A i g := by
  intro d
  induction d with
  | zero => intro _; exact sb_hit h
  | succ d ih =>
    intro hd
    have : ¬ mt A i f t (g + 1 + d) := fun e => mt_one hA (by omega) e (g' := g) (by omega) h
    rw [show g + 1 + (d + 1) = (g + 1 + d) + 1 by omega, sb_miss this]
    exact ih (by omega)
/-- the lesser one, if there is one -/
def comb (a r : Int32) : Int32 := if r = -1 then a else if a = -1 then r else if a ≤ r then a else r
theorem comb_no (a : Int32) : comb a (-1) = a := if_pos rfl
def okS (x : Int32) : Prop := x = -1 ∨ (0 ≤ x.toInt ∧ x.toInt ≤ 9999)
theorem comb_ok {a r : Int32} (ha : okS a) (hr : okS r) : okS (comb a r) := by
  unfold comb
  by_cases c : r = -1
  · rw [if_pos c]; exact ha
  rw [if_neg c]
  by_cases c2 : a = -1
  · rw [if_pos c2]; exact hr
  rw [if_neg c2]
  by_cases c3 : a ≤ r
  · rw [if_pos c3]; exact ha
  · rw [if_neg c3]; exact hr
def bF (A : Nat → Nat → Int32) (f t : Int32) : Nat → Int32
  | 0 => -1
  | k + 1 => if stF A k = 1 then comb (bF A f t k) (sbF A k f t (lL A k - 1)) else bF A f t k
theorem sb_ok {A : Nat → Nat → Int32} {i : Nat} {f t : Int32} (hA : RF A i) : ∀ m, okS (sbF A i f t m) := by
  intro m
  induction m with
  | zero => exact Or.inl rfl
  | succ m ih =>
    by_cases h : mt A i f t m
    · rw [sb_hit h]; exact spl_or hA m
    · rw [sb_miss h]; exact ih
theorem bF_ok {A : Nat → Nat → Int32} {f t : Int32} : ∀ k, (∀ i, i < k → RF A i) → okS (bF A f t k) := by
  intro k
  induction k with
  | zero => intro _; exact Or.inl rfl
  | succ k ih =>
    intro h
    have h1 := ih (fun i hi => h i (by omega))
    show okS (if stF A k = 1 then comb (bF A f t k) (sbF A k f t (lL A k - 1)) else bF A f t k)
    by_cases c : stF A k = 1
    · rw [if_pos c]; exact comb_ok h1 (sb_ok (h k (by omega)) _)
    · rw [if_neg c]; exact h1
theorem comb_is {a r : Int32} (h : a ≠ -1 ∨ r ≠ -1) : comb a r ≠ -1 := by
  unfold comb
  by_cases c : r = -1
  · rw [if_pos c]
    exact h.elim id (fun e => absurd c e)
  rw [if_neg c]
  by_cases c2 : a = -1
  · rw [if_pos c2]; exact c
  rw [if_neg c2]
  by_cases c3 : a ≤ r
  · rw [if_pos c3]; exact c2
  · rw [if_neg c3]; exact c
theorem bF_is {A : Nat → Nat → Int32} {f t : Int32} {i : Nat} (hr : stF A i = 1) (hs : sbF A i f t (lL A i - 1) ≠ -1) : ∀ k, i < k → bF A f t k ≠ -1 := by
  intro k
  induction k with
  | zero => intro h; omega
  | succ k ih =>
    intro h
    show (if stF A k = 1 then comb (bF A f t k) (sbF A k f t (lL A k - 1)) else bF A f t k) ≠ -1
    by_cases e : i = k
    · rw [← e, if_pos hr]
      exact comb_is (Or.inr hs)
    · have h1 := ih (by omega)
      by_cases c : stF A k = 1
      · rw [if_pos c]; exact comb_is (Or.inl h1)
      · rw [if_neg c]; exact h1
def b0 (x : Int32) : Int32 := if x = -1 then 0 else x
theorem b0_in {x : Int32} (h : okS x) : 0 ≤ (b0 x).toInt ∧ (b0 x).toInt ≤ 9999 := by
  unfold b0
  by_cases c : x = -1
  · rw [if_pos c, tl0]; omega
  · rw [if_neg c]; exact h.resolve_left c
theorem best_m {τ : gSt} {N n : Nat} {f t : Int32} (hI : Inv τ) (hN : 30 < N) (hn : (τ.2 3).toInt = n) : Ok (fun q => q.1 = b0 (bF (cor τ) f t n) ∧ Km τ q.2) (f_X10_bestSplit N τ f t) := by
  have n24 : n ≤ 24 := by have := hI.2.2.2.1.2.1; omega
  unfold f_X10_bestSplit
  refine gLoop3_ok (fun m (v3 v4 : Int32) s => ∃ k : Nat, k ≤ n ∧ (m : Int) = 24 - k ∧ v4.toInt = k ∧ v3 = bF (cor τ) f t k ∧ Km τ s) ?_ N 24 (-1) 0 τ (by omega) ⟨0, by omega, by omega, rfl, rfl, Km.rf⟩
  intro m v3 v4 s self ⟨k, hk, hm, h4, h3, hK⟩ ih
  have e3 : (s.2 3).toInt = n := by rw [hK.2 3 (by decide)]; exact hn
  by_cases c1 : s.2 3 ≤ v4
  · refine okt c1 ?_
    rw [tle, e3, h4] at c1
    have hkn : k = n := by omega
    subst hkn
    by_cases c2 : v3 = -1
    · refine okt c2 (Ok.some ⟨?_, hK⟩)
      unfold b0
      rw [← h3, if_pos c2]
    · refine okf c2 (Ok.some ⟨?_, hK⟩)
      unfold b0
      rw [← h3, if_neg c2]
  · refine okf c1 ?_
    rw [tle, e3, h4] at c1
    have e1 := inc1 (v := v4) (n := 24) (by omega) (by omega)
    have g4 := gd (x := v4) (n := 24) (by omega) (by omega)
    refine (state_m (hI.keep hK) hN h4 (by rw [e3]; omega)).bind (fun q hq => ?_)
    obtain ⟨b, s2⟩ := q
    obtain ⟨hb, hM⟩ := hq
    dsimp only at hb hM ⊢
    rw [cor_km hK] at hb
    have hA : RF (cor τ) k := RF_of hI (by omega)
    have hM2 : MG τ k (thr (cor τ) k (pR (cor τ) k)) s2 := by
      have h2 := hM.2
      rw [cor_km hK] at h2
      exact ⟨hK.trans hM.1, h2⟩
    have hK2 := hM2.1
    obtain ⟨k1, k2, k3, k4⟩ := run_at hK2 h4 hA
    have gk := gd (x := g_ga s2 6 v4) (n := 5) k1.1 k1.2
    have r4 := hA.2.2.2.1
    have r5 := hA.2.2.2.2.1
    have e5 : (g_ga s2 5 (g_ga s2 6 v4) - 1).toInt = (lL (cor τ) k - 1 : Nat) := by rw [tsub (by rw [k3, tl1]; omega), k3, tl1]; omega
    have hnext : bF (cor τ) f t (k + 1) = (if stF (cor τ) k = 1 then comb (bF (cor τ) f t k) (sbF (cor τ) k f t (lL (cor τ) k - 1)) else bF (cor τ) f t k) := rfl
    have go : ∀ v, v = bF (cor τ) f t (k + 1) → Ok (fun q => q.1 = b0 (bF (cor τ) f t n) ∧ Km τ q.2) (self v (v4 + 1) s2) := fun v hv => ih (m - 1) v (v4 + 1) s2 (by omega) ⟨k + 1, by omega, by omega, by rw [e1]; omega, hv, hK2⟩
    refine okz ?_
    by_cases c : b = 1
    · have hr : stF (cor τ) k = 1 := hb.symm.trans c
      rw [if_pos hr] at hnext
      refine okt c ?_
      refine gLoop2_ok (fun m (v3 v6 : Int32) => ∃ g : Nat, g ≤ lL (cor τ) k - 1 ∧ (m : Int) = 6 - g ∧ v6.toInt = g ∧ v3 = comb (bF (cor τ) f t k) (sbF (cor τ) k f t g)) ?_ N 6 v3 0 (by omega) ⟨0, by omega, by omega, rfl, by rw [h3]; exact (comb_no _).symm⟩
      intro m2 u3 v6 self2 ⟨g, hg, hm2, h6, hu⟩ ih2
      refine okf g4 (okf gk (ok0 ?_))
      by_cases c2 : g_ga s2 5 (g_ga s2 6 v4) - 1 ≤ v6
      · refine okt c2 (go u3 ?_)
        rw [tle, e5] at c2
        rw [hnext, hu, show g = lL (cor τ) k - 1 by omega]
      · refine okf c2 (okf one_ne (okf g4 ?_))
        rw [tle, e5] at c2
        have e6 := inc1 (v := v6) (n := 6) (by omega) (by omega)
        obtain ⟨ec, eg⟩ := crs_at (s := s2) hK2 hA k1 k2 h6 (by omega)
        have ec1 := inc1 (v := 6 * g_ga s2 6 v4 + v6) (n := 30) (by rw [ec]; have := hA.2.1; omega) (by omega)
        have eg1 : g_ga s2 4 (6 * g_ga s2 6 v4 + v6 + 1) = cR (cor τ) k (g + 1) := by
          rw [ga_at (n := 6 * kL (cor τ) k + (g + 1)) (by rw [ec1, ec]; omega), hK2.1 4 (by decide)]
          unfold cR
          rw [cor_at (by decide)]
        have r2 := hA.2.1
        refine okf (gd (by rw [ec]; omega) (by rw [ec]; omega)) (okz (ok0 ?_))
        rw [eg, eg1]
        have go2 : ∀ v, v = comb (bF (cor τ) f t k) (sbF (cor τ) k f t (g + 1)) → Ok (fun q => q.1 = b0 (bF (cor τ) f t n) ∧ Km τ q.2) (self2 v (v6 + 1)) := fun v hv => ih2 (m2 - 1) v (v6 + 1) (by omega) ⟨g + 1, by omega, by omega, by rw [e6]; omega, hv⟩
        have skip : ¬ mt (cor τ) k f t g → Ok (fun q => q.1 = b0 (bF (cor τ) f t n) ∧ Km τ q.2) (self2 u3 (v6 + 1)) := fun h => go2 u3 (by rw [sb_miss h]; exact hu)
        by_cases c3 : cR (cor τ) k g = f
        · refine okt c3 (okf (gd (by rw [ec1, ec]; omega) (by rw [ec1, ec]; omega)) ?_)
          by_cases c4 : cR (cor τ) k (g + 1) = t
          · have hm4 : mt (cor τ) k f t g := ⟨c3, c4⟩
            have h0 : sbF (cor τ) k f t g = -1 := sb_none g (fun g' hg' => mt_one hA (by omega) hm4 hg')
            rw [h0, comb_no] at hu
            have hs := sb_hit hm4
            refine okt c4 (okb (split_m hM2 hA h4 (by omega) h6 (by omega)) (okz (ok0 ?_)))
            by_cases c5 : spl (cor τ) k g = -1
            · exact okt c5 (go2 u3 (by rw [hs, c5, comb_no]; exact hu))
            · refine okf c5 (ok0 ?_)
              by_cases c6 : u3 = -1
              · exact okt c6 (go2 _ (by rw [hs, ← hu]; unfold comb; rw [if_neg c5, if_pos c6]))
              · refine okf c6 ?_
                by_cases c7 : u3 ≤ spl (cor τ) k g
                · exact okt c7 (go2 _ (by rw [hs, ← hu]; unfold comb; rw [if_neg c5, if_neg c6, if_pos c7]))
                · exact okf c7 (go2 _ (by rw [hs, ← hu]; unfold comb; rw [if_neg c5, if_neg c6, if_neg c7]))
          · exact okf c4 (okz (ok0 (okt rfl (skip (fun h => c4 h.2)))))
        · exact okf c3 (okz (ok0 (okt rfl (skip (fun h => c3 h.1)))))
    · have hr : stF (cor τ) k ≠ 1 := fun e => c (hb.trans e)
      rw [if_neg hr] at hnext
      refine okf c ?_
      refine gLoop2_ok (fun m (u3 v6 : Int32) => u3 = v3 ∧ v6.toInt = 0) ?_ N 0 v3 0 (by omega) ⟨rfl, rfl⟩
      intro m2 u3 v6 self2 ⟨hu, h6⟩ ih2
      have c2 : ¬ g_ga s2 5 (g_ga s2 6 v4) - 1 ≤ v6 := by rw [tle, e5, h6]; omega
      exact okf g4 (okf gk (ok0 (okf c2 (okt rfl (go u3 (by rw [hnext, hu, h3]))))))
/-- the best split of a leg, 0 if it is void; the sum of these -/
def bs (A : Nat → Nat → Int32) (n i g : Nat) : Int32 := if vo A i g = 0 then b0 (bF A (cR A i g) (cR A i (g + 1)) n) else 0
def sm (A : Nat → Nat → Int32) (n i : Nat) : Nat → Int32
  | 0 => 0
  | g + 1 => sm A n i g + bs A n i g
theorem bs_in {A : Nat → Nat → Int32} {n i g : Nat} (h : ∀ i, i < n → RF A i) : 0 ≤ (bs A n i g).toInt ∧ (bs A n i g).toInt ≤ 9999 := by
  unfold bs
  by_cases c : vo A i g = 0
  · rw [if_pos c]; exact b0_in (bF_ok n h)
  · rw [if_neg c, tl0]; omega
theorem sm_in {A : Nat → Nat → Int32} {n i : Nat} (h : ∀ i, i < n → RF A i) : ∀ m, m ≤ 6 → 0 ≤ (sm A n i m).toInt ∧ (sm A n i m).toInt ≤ 9999 * m ∧ ∀ g, g < m → (bs A n i g).toInt ≤ (sm A n i m).toInt := by
  intro m
  induction m with
  | zero => intro _; exact ⟨Int.le_refl 0, Int.le_refl 0, fun g hg => by omega⟩
  | succ m ih =>
    intro hm
    obtain ⟨a, b, c⟩ := ih (by omega)
    have d := bs_in (i := i) (g := m) h
    have e : (sm A n i (m + 1)).toInt = (sm A n i m).toInt + (bs A n i m).toInt := tadd (by omega)
    rw [e]
    refine ⟨by omega, by omega, fun g hg => ?_⟩
    by_cases q : g = m
    · rw [q]; omega
    · have := c g (by omega)
      omega
def paceF (A : Nat → Nat → Int32) (n i : Nat) : Int := if (sm A n i (lL A i - 1)).toInt = 0 then 1000 else 1000 * (tot A i).toInt / (sm A n i (lL A i - 1)).toInt
def loF (A : Nat → Nat → Int32) (n i g : Nat) : Int := max 0 ((spl A i g).toInt - (bs A n i g).toInt * paceF A n i / 1000)
theorem pace_in {A : Nat → Nat → Int32} {n i g : Nat} (h : ∀ i, i < n → RF A i) (hi : i < n) (hr : stF A i = 1) (hg : g + 1 < lL A i) : 0 ≤ paceF A n i ∧ paceF A n i ≤ 60000000 ∧ 0 ≤ (bs A n i g).toInt * paceF A n i ∧ (bs A n i g).toInt * paceF A n i ≤ 60000000 := by
  have r5 := (h i hi).2.2.2.2.1
  obtain ⟨a, b, c⟩ := sm_in (i := i) h (lL A i - 1) (by omega)
  have d := bs_in (i := i) (g := g) h
  have e := c g (by omega)
  rcases tot_or (h i hi) with ⟨_, _, q1, q2⟩ | ⟨q, _⟩
  · unfold paceF
    generalize (sm A n i (lL A i - 1)).toInt = S at *
    generalize (bs A n i g).toInt = B at *
    generalize (tot A i).toInt = T at *
    by_cases z : S = 0
    · rw [if_pos z]
      have : B = 0 := by omega
      rw [this]
      omega
    · rw [if_neg z]
      have p1 : 0 ≤ 1000 * T / S := Int.ediv_nonneg (by omega) a
      have p2 : S * (1000 * T / S) ≤ 1000 * T := Int.mul_ediv_self_le z
      have p3 : B * (1000 * T / S) ≤ S * (1000 * T / S) := Int.mul_le_mul_of_nonneg_right e p1
      have p4 : 0 ≤ B * (1000 * T / S) := Int.mul_nonneg d.1 p1
      have p5 : 1 * (1000 * T / S) ≤ S * (1000 * T / S) := Int.mul_le_mul_of_nonneg_right (by omega) p1
      refine ⟨p1, by omega, p4, by omega⟩
  · exact absurd hr q
