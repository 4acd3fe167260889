/-! ===== pure: the reference lays its orders ===== -/
theorem div6 {v : Int32} (h : 0 ≤ v.toInt) : (v / 6).toInt = v.toInt / 6 := by
  rw [tdiv' h (by rw [tl6]; omega), tl6]
theorem mod6 {v : Int32} (h : 0 ≤ v.toInt) : (v - v / 6 * 6).toInt = v.toInt % 6 := by
  have hd := div6 h
  have hr := tR v
  have e : (v / 6 * 6).toInt = v.toInt / 6 * 6 := by rw [tmul (by rw [hd, tl6]; omega), hd, tl6]
  rw [tsub (by rw [e]; omega), e]
  omega
/-- the row that a code tells -/
def codR (m : Nat) (A : Nat → Int32) (k : Nat) : Nat → Int32 := fun j => if 1 ≤ j ∧ j ≤ m then A (k / 6 ^ (m - j) % 6) else A j
def gdC (m k : Nat) : Prop := snF m k m = flF m
theorem cod_ord {m k : Nat} {A : Nat → Int32} (h2 : 2 ≤ m) (hm : m < 5) (hk : k < 6 ^ m) (hg : gdC m k) : ∃ t, t < nT m ∧ eqR (m + 2) (codR m A k) (ordR m A t) := by
  have key : ∃ t, t < nT m ∧ ∀ j, j < m → k / 6 ^ (m - (j + 1)) % 6 = pT m t (j + 1) := by
    unfold gdC at hg
    match m, h2, hm with
    | 2, _, _ => exact code_ok2 k hk hg
    | 3, _, _ => exact code_ok3 k hk hg
    | 4, _, _ => exact code_ok4 k hk hg
  obtain ⟨t, t1, t2⟩ := key
  refine ⟨t, t1, fun j hj => ?_⟩
  unfold codR ordR
  by_cases c : 1 ≤ j ∧ j ≤ m
  · rw [if_pos c, if_pos c]
    have := t2 (j - 1) (by omega)
    rw [show j - 1 + 1 = j by omega] at this
    rw [this]
  · rw [if_neg c, if_neg c]
theorem ord_cod {m t : Nat} {A : Nat → Int32} (h2 : 2 ≤ m) (hm : m < 5) (ht : t < nT m) : ∃ k, k < 6 ^ m ∧ gdC m k ∧ eqR (m + 2) (codR m A k) (ordR m A t) := by
  have key : ∃ k, k < 6 ^ m ∧ snF m k m = flF m ∧ ∀ j, j < m → k / 6 ^ (m - (j + 1)) % 6 = pT m t (j + 1) := by
    match m, h2, hm with
    | 2, _, _ => exact code_ex2 t ht
    | 3, _, _ => exact code_ex3 t ht
    | 4, _, _ => exact code_ex4 t ht
  obtain ⟨k, k1, k2, k3⟩ := key
  refine ⟨k, k1, k2, fun j hj => ?_⟩
  unfold codR ordR
  by_cases c : 1 ≤ j ∧ j ≤ m
  · rw [if_pos c, if_pos c]
    have := k3 (j - 1) (by omega)
    rw [show j - 1 + 1 = j by omega] at this
    rw [this]
  · rw [if_neg c, if_neg c]
/-- the reference changes a row of its own alone -/
def Ko (r0 : Nat) (s s' : gSt) : Prop := (∀ r, r ≠ r0 → s'.1 r = s.1 r) ∧ ∀ k, s'.2 k = s.2 k
theorem Ko.rf {r0 : Nat} {s : gSt} : Ko r0 s s := ⟨fun _ _ => rfl, fun _ => rfl⟩
theorem Ko.pa {r0 : Nat} {s u : gSt} {i x : Int32} (h : Ko r0 s u) : Ko r0 s (g_pa u r0 i x) := ⟨fun r hr => by rw [pa_1, if_neg hr]; exact h.1 r hr, h.2⟩
theorem Ko.km {r0 : Nat} {s u : gSt} (h : Ko r0 s u) (hr : 11 < r0) : Km s u := ⟨fun r h2 => h.1 r (by omega), fun k _ => h.2 k⟩
theorem pow_next {k n : Nat} : k / 6 ^ n / 6 = k / 6 ^ (n + 1) := by
  rw [Nat.div_div_eq_div_mul, Nat.pow_succ]
theorem lays_m {τ s : gSt} {N c m k : Nat} {x1 x2 : Int32} (hN : 200 < N) (hK : Km τ s) (hx : x1.toInt = c) (hc : c < 5) (hL : (τ.1 5 c).toInt = m + 2) (h2 : 2 ≤ m) (hm : m < 5) (hk : x2.toInt = k) : Ok (fun (q : Int32 × gSt) => Ko 18 s q.2 ∧ ((q.1 = 1 ∧ gdC m k) ∨ (q.1 = 0 ∧ ¬ gdC m k)) ∧ ∀ j, j < m + 2 → q.2.1 18 j = codR m (oC τ c) k j) (f_X10_lays N s x1 x2) := by
  have hkx : isK x1 := ⟨by omega, by omega⟩
  have gx := gd (x := x1) (n := 5) (by omega) (by omega)
  have e5 : g_ga s 5 x1 = τ.1 5 c := by rw [ga_at hx, hK.1 5 (by decide)]
  have e6 := mul6 hkx
  have em2 : (τ.1 5 c - 2).toInt = m := by rw [tsub (by rw [hL, tl2]; omega), hL, tl2]; omega
  have em1 : (τ.1 5 c - 1).toInt = (m + 1 : Nat) := by rw [tsub (by rw [hL, tl1]; omega), hL, tl1]; omega
  have eL : (6 * x1 + τ.1 5 c).toInt = 6 * c + (m + 2) := by rw [tadd (by rw [e6]; omega), e6, hx, hL]
  have eL1 : (6 * x1 + τ.1 5 c - 1).toInt = (6 * c + (m + 1) : Nat) := by rw [tsub (by rw [eL, tl1]; omega), eL, tl1]; omega
  have o1 : τ.1 5 c - 1 = Int32.ofNat (m + 1) := ofN_eq em1
  unfold f_X10_lays
  rw [e5]
  refine okf gx ?_
  refine gLoop4_ok (fun M (v4 v5 v6 : Int32) (u : gSt) => ∃ n : Nat, n ≤ m ∧ M = m - n ∧ v4.toInt = (k / 6 ^ n : Nat) ∧ v5 = snF m k n ∧ v6.toInt = (m - n : Nat) ∧ Ko 18 s u ∧ ∀ j, m - n < j → j ≤ m → u.1 18 j = oC τ c (k / 6 ^ (m - j) % 6)) ?_ N m x2 0 _ s (by omega) ⟨0, by omega, by omega, by rw [hk]; simp, rfl, by rw [em2]; rfl, Ko.rf, fun j h1 h2 => by omega⟩
  intro M v4 v5 v6 u self ⟨n, hn, hM, h4, h5, h6, hKo, h18⟩ ih
  have u4 : ∀ (v : Int32) (j : Nat), v.toInt = (6 * c + j : Nat) → g_ga u 4 v = oC τ c j := fun v j hv => by
    rw [ga_at (n := 6 * c + j) (by rw [hv]), hKo.1 4 (by decide), hK.1 4 (by decide)]
    rfl
  by_cases c1 : v6 ≤ 0
  · refine okt c1 (okf (gd (by omega) (by omega)) (okf (by decide) (okf (gd (by omega) (by omega)) (okf (gd (by omega) (by omega)) ?_))))
    rw [tle, h6, tl0] at c1
    have hnm : n = m := by omega
    rw [hnm] at h5 h18
    have a4 : g_ga u 4 (6 * x1) = oC τ c 0 := u4 _ 0 (by omega)
    have b4 : ∀ y z, g_ga (g_pa u 18 y z) 4 (6 * x1 + τ.1 5 c - 1) = oC τ c (m + 1) := fun y z => by
      show g_ga u 4 _ = _
      exact u4 _ (m + 1) eL1
    have rowE : ∀ j, j < m + 2 → (g_pa (g_pa u 18 0 (oC τ c 0)) 18 (τ.1 5 c - 1) (oC τ c (m + 1))).1 18 j = codR m (oC τ c) k j := fun j hj => by
      rw [pa_1, if_pos rfl, pa_1, if_pos rfl, upd_at, upd_at, em1, tl0]
      unfold codR
      by_cases e1 : j = m + 1
      · rw [if_pos (by omega), if_neg (by omega), e1]
      · rw [if_neg (by omega)]
        by_cases e2 : j = 0
        · rw [if_pos (by omega), if_neg (by omega), e2]
        · rw [if_neg (by omega), if_pos ⟨by omega, by omega⟩]
          exact h18 j (by omega) (by omega)
    rw [a4, b4, o1]
    rw [o1] at rowE
    by_cases c2 : v5 = (1 <<< (Int32.ofNat (m + 1) &&& 31)) - 2
    · exact okt c2 (Ok.some ⟨hKo.pa.pa, Or.inl ⟨rfl, h5.symm.trans c2⟩, rowE⟩)
    · exact okf c2 (Ok.some ⟨hKo.pa.pa, Or.inr ⟨rfl, fun e => c2 (h5.trans e)⟩, rowE⟩)
  · refine okf c1 (okz ?_)
    rw [tle, h6, tl0] at c1
    have hq0 : 0 ≤ v4.toInt := by rw [h4]; exact Int.natCast_nonneg _
    have ed := div6 hq0
    have emo := mod6 hq0
    have kQ : ∀ Q : Nat, v4.toInt = Q → (v4 - v4 / 6 * 6).toInt = (Q % 6 : Nat) ∧ (v4 / 6).toInt = (Q / 6 : Nat) := fun Q h => by omega
    obtain ⟨eits, d4'⟩ := kQ _ h4
    have oits : v4 - v4 / 6 * 6 = Int32.ofNat (k / 6 ^ n % 6) := ofN_eq eits
    have hlt : k / 6 ^ n % 6 < 6 := Nat.mod_lt _ (by decide)
    have e6i : (6 * x1 + (v4 - v4 / 6 * 6)).toInt = (6 * c + k / 6 ^ n % 6 : Nat) := by
      rw [ent_in hkx (by rw [eits]; exact Int.natCast_nonneg _) (by rw [eits]; omega), hx, eits]
      generalize k / 6 ^ n % 6 = Q
      omega
    have d4 : (v4 / 6).toInt = (k / 6 ^ (n + 1) : Nat) := by
      rw [d4', pow_next]
    have go : ∀ w, w = bitF m (k / 6 ^ n % 6) → Ok (fun (q : Int32 × gSt) => Ko 18 s q.2 ∧ ((q.1 = 1 ∧ gdC m k) ∨ (q.1 = 0 ∧ ¬ gdC m k)) ∧ ∀ j, j < m + 2 → q.2.1 18 j = codR m (oC τ c) k j) (if (6 * x1) + (v4 - v4 / 6 * 6) < 0 ∨ 30 ≤ ((6 * x1) + (v4 - v4 / 6 * 6)).toNatClampNeg then none else
          if v6 < 0 ∨ 6 ≤ v6.toNatClampNeg then none else
          self (v4 / 6) (v5 ||| w) (v6 + (-1)) (g_pa u 18 v6 (g_ga u 4 ((6 * x1) + (v4 - v4 / 6 * 6))))) := by
      intro w hw
      rw [u4 _ _ e6i]
      refine okf (gd (by rw [e6i]; exact Int.natCast_nonneg _) (by rw [e6i]; omega)) (okf (gd (by omega) (by omega)) (ih (m - (n + 1)) _ _ _ _ (by omega) ⟨n + 1, by omega, rfl, d4, by rw [h5, hw]; rfl, by rw [tadd (by rw [tlm1]; omega), tlm1, h6]; omega, hKo.pa, fun j h1 h3 => ?_⟩))
      rw [pa_1, if_pos rfl, upd_at]
      by_cases e : j = m - n
      · rw [if_pos (by omega), e, show m - (m - n) = n by omega]
      · rw [if_neg (by omega)]
        exact h18 j (by omega) h3
    by_cases c2 : 1 ≤ k / 6 ^ n % 6 ∧ k / 6 ^ n % 6 ≤ m
    · refine okf (by rw [in_yes (by rw [tl1, eits]; omega) (by rw [em2, eits]; omega)]; exact one_ne) (go _ ?_)
      unfold bitF
      rw [if_pos c2, oits]
    · refine okt (in_no (by rw [tl1, em2, eits]; omega)) (go 0 ?_)
      unfold bitF
      rw [if_neg c2]
theorem isLess_m {s : gSt} {N L : Nat} {x1 : Int32} (hN : 200 < N) (hx : x1.toInt = L) (hL : 1 ≤ L) (hL6 : L ≤ 6) : Ok (fun (r : Int32) => (r = 1 ∧ ltR L (s.1 18) (s.1 19)) ∨ (r = 0 ∧ ¬ ltR L (s.1 18) (s.1 19))) (f_X10_isLess N s x1) := by
  have e1 : (x1 - 1).toInt = L - 1 := by rw [tsub (by rw [hx, tl1]; omega), hx, tl1]
  unfold f_X10_isLess
  refine gLoop1_ok (fun m (v : Int32) => ∃ k : Nat, v.toInt = k ∧ k ≤ L - 1 ∧ (m : Int) = 6 - k ∧ ∀ j, j < k → s.1 18 j = s.1 19 j) ?_ N 6 0 (by omega) ⟨0, rfl, by omega, by omega, fun j hj => by omega⟩
  intro m v self ⟨k, hv, hk, hm, hj⟩ ih
  have gv := gd (x := v) (n := 6) (by omega) (by omega)
  have a18 : g_ga s 18 v = s.1 18 k := ga_at hv
  have a19 : g_ga s 19 v = s.1 19 k := ga_at hv
  have ev := inc1 (v := v) (n := 6) (by omega) (by omega)
  rw [a18, a19]
  have cmp : (k = L - 1 ∨ s.1 18 k ≠ s.1 19 k) → Ok (fun (r : Int32) => (r = 1 ∧ ltR L (s.1 18) (s.1 19)) ∨ (r = 0 ∧ ¬ ltR L (s.1 18) (s.1 19))) (if v < 0 ∨ 6 ≤ v.toNatClampNeg then none else
        if v < 0 ∨ 6 ≤ v.toNatClampNeg then none else
        if s.1 19 k ≤ s.1 18 k then
          some 0
        else
          some 1) := by
    intro h
    refine okf gv (okf gv ?_)
    by_cases c : s.1 19 k ≤ s.1 18 k
    · refine okt c (Ok.some (Or.inr ⟨rfl, fun g => g.no ?_⟩))
      rw [tle] at c
      by_cases e : s.1 18 k = s.1 19 k
      · have hkL := h.resolve_right (fun q => q e)
        exact Or.inr (fun j hj2 => by
          by_cases e2 : j = k
          · rw [e2]; exact e.symm
          · exact (hj j (by omega)).symm)
      · rw [teq] at e
        exact Or.inl ⟨k, by omega, fun j hj2 => (hj j hj2).symm, by omega⟩
    · refine okf c (Ok.some (Or.inl ⟨rfl, k, by omega, hj, ?_⟩))
      rw [tle] at c
      omega
  refine ok0 ?_
  by_cases c1 : x1 - 1 ≤ v
  · refine okt c1 (cmp (Or.inl ?_))
    rw [tle, e1, hv] at c1
    omega
  · refine okf c1 (okf gv (okf gv ?_))
    rw [tle, e1, hv] at c1
    by_cases c2 : s.1 18 k = s.1 19 k
    · exact okt c2 (ih (m - 1) (v + 1) (by omega) ⟨k + 1, by omega, by omega, by omega, fun j hj2 => by
        by_cases e : j = k
        · rw [e]; exact c2
        · exact hj j (by omega)⟩)
    · exact okf c2 (cmp (Or.inr c2))
