/-! ===== pure: the class judges an order, and goes to the next ===== -/
def rC (N : Nat) (τ : gSt) (o : Nat → Int32) (L : Nat) : Int32 := sumR (lgC N τ o) (lgC N τ o) (L - 1)
def rK (N : Nat) (τ : gSt) (o : Nat → Int32) (L : Nat) : Int32 := sumR (lgC N τ o) (lgK N τ o) (L - 1)
def vl (N : Nat) (τ : gSt) (o : Nat → Int32) (L : Nat) : Prop := rC N τ o L ≠ -1
/-- how far off -/
def ofF (N : Nat) (τ : gSt) (w : Int32) (o : Nat → Int32) (L : Nat) : Int := (((rK N τ o L).toInt - w.toInt).natAbs : Nat)
/-- nearer, of the same less cost -/
def btR (N : Nat) (τ : gSt) (w : Int32) (L : Nat) (o o' : Nat → Int32) : Prop := ofF N τ w o L < ofF N τ w o' L ∨ (ofF N τ w o L = ofF N τ w o' L ∧ (rC N τ o L).toInt < (rC N τ o' L).toInt)
/-- as near, and the same cost -/
def sqR (N : Nat) (τ : gSt) (w : Int32) (L : Nat) (o o' : Nat → Int32) : Prop := ofF N τ w o L = ofF N τ w o' L ∧ (rC N τ o L).toInt = (rC N τ o' L).toInt
def leR (N : Nat) (τ : gSt) (w : Int32) (L : Nat) (o o' : Nat → Int32) : Prop := btR N τ w L o o' ∨ (sqR N τ w L o o' ∧ (ltR L o o' ∨ eqR L o o'))
theorem leR.anti {N L : Nat} {τ : gSt} {w : Int32} {o p : Nat → Int32} (h : leR N τ w L o p) (g : leR N τ w L p o) : eqR L o p := by
  unfold leR btR sqR at h g
  rcases h with h | ⟨h1, h2⟩ <;> rcases g with g | ⟨g1, g2⟩
  · omega
  · omega
  · omega
  · rcases h2 with h2 | h2
    · exact (h2.no g2).elim
    · exact h2
theorem btR.le {N L : Nat} {τ : gSt} {w : Int32} {o p q : Nat → Int32} (h : btR N τ w L o p) (g : leR N τ w L p q) : leR N τ w L o q := by
  unfold leR btR sqR at *
  rcases g with g | ⟨g1, _⟩ <;> exact Or.inl (by omega)
theorem sum_congr {c k c' k' : Nat → Int32} : ∀ M, (∀ m, m < M → c m = c' m ∧ k m = k' m) → sumR c k M = sumR c' k' M := by
  intro M
  induction M with
  | zero => intro _; rfl
  | succ M ih =>
    intro h
    show (if sumR c k M = -1 then -1 else if c M = -1 then -1 else sumR c k M + k M) = (if sumR c' k' M = -1 then -1 else if c' M = -1 then -1 else sumR c' k' M + k' M)
    rw [ih (fun m hm => h m (by omega)), (h M (by omega)).1, (h M (by omega)).2]
theorem rows_eq {N L : Nat} {τ : gSt} {o p : Nat → Int32} (h : eqR L o p) : rC N τ o L = rC N τ p L ∧ rK N τ o L = rK N τ p L := by
  refine ⟨sum_congr _ (fun m hm => ?_), sum_congr _ (fun m hm => ?_)⟩
  · unfold lgC
    rw [h m (by omega), h (m + 1) (by omega)]
    exact ⟨rfl, rfl⟩
  · unfold lgC lgK
    rw [h m (by omega), h (m + 1) (by omega)]
    exact ⟨rfl, rfl⟩
theorem of_eq {N L : Nat} {τ : gSt} {w : Int32} {o p : Nat → Int32} (h : eqR L o p) : ofF N τ w o L = ofF N τ w p L := by
  unfold ofF
  rw [(rows_eq h).2]
theorem sums_in {τ : gSt} {N L : Nat} {o : Nat → Int32} (hI : Inv τ) (hN : 1000000000000000000000 < N) (hL : L ≤ 6) (ho : ∀ j, j < L → isC τ (o j)) : (rC N τ o L = -1 ↔ rK N τ o L = -1) ∧ (rC N τ o L ≠ -1 → (0 ≤ (rC N τ o L).toInt ∧ (rC N τ o L).toInt ≤ 1000000) ∧ 0 ≤ (rK N τ o L).toInt ∧ (rK N τ o L).toInt ≤ 1000000) := by
  have g0 := lg_C (N := N) hI hN ho
  have g1 := lg_K (N := N) hI hN ho
  have hb := sumR_both g0 g1 (L - 1) (Nat.le_refl _) (by omega)
  have o0 := sumR_ok g0 (L - 1) (Nat.le_refl _) (by omega)
  have o1 := sumR_ok g1 (L - 1) (Nat.le_refl _) (by omega)
  unfold rC rK
  refine ⟨hb, fun h => ?_⟩
  have a := o0.resolve_left h
  have b := o1.resolve_left (fun e => h (hb.mpr e))
  omega
/-- an order is kept -/
def KO (L : Nat) (off cost : Int32) (s s' : gSt) : Prop := s'.2 6 = off ∧ s'.2 7 = cost ∧ (∀ k, k ≠ 6 → k ≠ 7 → s'.2 k = s.2 k) ∧ (∀ r, r ≠ 15 → s'.1 r = s.1 r) ∧ ∀ j, j < L → s'.1 15 j = s.1 14 j
theorem keep_c {s : gSt} {N L : Nat} {x1 x2 : Int32} (hN : 200 < N) (h5 : (s.2 5).toInt = L) (hL : L ≤ 6) : Ok (fun (s' : gSt) => KO L x1 x2 s s') (f_X4_keepOrder N s x1 x2) := by
  unfold f_X4_keepOrder
  refine gLoop2_ok (fun m (v : Int32) (u : gSt) => ∃ j : Nat, v.toInt = j ∧ j ≤ L ∧ (m : Int) = 6 - j ∧ KO j x1 x2 s u) ?_ N 6 0 _ (by omega) ⟨0, rfl, by omega, by omega, by rw [sf_2, if_neg (by decide), sf_2, if_pos rfl], by rw [sf_2, if_pos rfl], fun k h1 h2 => by rw [sf_2, if_neg h2, sf_2, if_neg h1], fun _ _ => rfl, fun j hj => by omega⟩
  intro m v u self ⟨j, hv, hj, hm, hK⟩ ih
  obtain ⟨k1, k2, k3, k4, k5⟩ := hK
  have u5 : (u.2 5).toInt = L := by rw [k3 5 (by decide) (by decide)]; exact h5
  by_cases c1 : u.2 5 ≤ v
  · refine okt c1 (Ok.some ?_)
    rw [tle, u5, hv] at c1
    rw [show L = j by omega]
    exact ⟨k1, k2, k3, k4, k5⟩
  · refine okf c1 ?_
    rw [tle, u5, hv] at c1
    have e1 := inc1 (v := v) (n := 6) (by omega) (by omega)
    rw [get14 hv (by omega), gput_in (by omega) (by rw [len14.2.1]; omega), hv]
    refine ih (m - 1) (v + 1) _ (by omega) ⟨j + 1, by omega, by omega, by omega, k1, k2, k3, fun r hr => by rw [sa_1, if_neg hr]; exact k4 r hr, fun i hi => ?_⟩
    rw [sa_1, if_pos rfl, upd_at]
    by_cases e : i = j
    · rw [if_pos (by omega), k4 14 (by decide), e]
    · rw [if_neg (by omega)]
      exact k5 i (by omega)
theorem judge_c {s τ : gSt} {N L : Nat} {w : Int32} {o : Nat → Int32} (hI : Inv τ) (hN : 1000000000000000000000 < N) (h5 : (s.2 5).toInt = L) (hL : L ≤ 6) (hL2 : 2 ≤ L) (hw : 0 ≤ w.toInt ∧ w.toInt ≤ 9999) (ho : ∀ j, j < L → s.1 14 j = o j ∧ isC τ (o j)) (hT : ∀ i j, i < L → j < L → TB N τ (o i) (o j) s) : Ok (fun (s' : gSt) => (¬ vl N τ o L ∧ s' = s) ∨ (vl N τ o L ∧ (((s.2 7 = -1 ∨ ofF N τ w o L < (s.2 6).toInt ∨ (ofF N τ w o L = (s.2 6).toInt ∧ (rC N τ o L).toInt < (s.2 7).toInt)) ∧ ∃ f, f.toInt = ofF N τ w o L ∧ KO L f (rC N τ o L) s s') ∨ (¬ (s.2 7 = -1 ∨ ofF N τ w o L < (s.2 6).toInt ∨ (ofF N τ w o L = (s.2 6).toInt ∧ (rC N τ o L).toInt < (s.2 7).toInt)) ∧ s' = s)))) (f_X4_judgeOrder N s w) := by
  have c12 := hI.2.1.2.1
  have g0 := lg_C (N := N) hI hN (fun j hj => (ho j hj).2)
  have g1 := lg_K (N := N) hI hN (fun j hj => (ho j hj).2)
  have hin := sums_in (N := N) hI hN hL (fun j hj => (ho j hj).2)
  unfold f_X4_judgeOrder
  refine gLoop3_ok (fun m (v2 v3 v4 : Int32) => ∃ k : Nat, v4.toInt = k ∧ k ≤ L - 1 ∧ (m : Int) = 6 - k ∧ v2 = sumR (lgC N τ o) (lgC N τ o) k ∧ v3 = sumR (lgC N τ o) (lgK N τ o) k ∧ v2 ≠ -1) ?_ N 6 0 0 0 (by omega) ⟨0, rfl, by omega, by omega, rfl, rfl, by decide⟩
  intro m v2 v3 v4 self ⟨k, h4, hk, hm, h2, h3, hn⟩ ih
  have e4 := inc1 (v := v4) (n := 6) (by omega) (by omega)
  by_cases c1 : s.2 5 ≤ v4 + 1
  · refine okt c1 (ok0 ?_)
    rw [tle, h5, e4, h4] at c1
    have hkL : k = L - 1 := by omega
    have eC : v2 = rC N τ o L := by rw [h2, hkL]; rfl
    have eK : v3 = rK N τ o L := by rw [h3, hkL]; rfl
    have hv : vl N τ o L := by unfold vl; rw [← eC]; exact hn
    obtain ⟨b1, b2⟩ := hin.2 hv
    have eo : (jabs (v3 - w)).toInt = ofF N τ w o L := by
      have q : (v3 - w).toInt = (rK N τ o L).toInt - w.toInt := by rw [tsub (by rw [eK]; omega), eK]
      rw [tabs (by rw [q]; omega), q]
      rfl
    have keep : (s.2 7 = -1 ∨ ofF N τ w o L < (s.2 6).toInt ∨ (ofF N τ w o L = (s.2 6).toInt ∧ (rC N τ o L).toInt < (s.2 7).toInt)) → Ok (fun (s' : gSt) => (¬ vl N τ o L ∧ s' = s) ∨ (vl N τ o L ∧ (((s.2 7 = -1 ∨ ofF N τ w o L < (s.2 6).toInt ∨ (ofF N τ w o L = (s.2 6).toInt ∧ (rC N τ o L).toInt < (s.2 7).toInt)) ∧ ∃ f, f.toInt = ofF N τ w o L ∧ KO L f (rC N τ o L) s s') ∨ (¬ (s.2 7 = -1 ∨ ofF N τ w o L < (s.2 6).toInt ∨ (ofF N τ w o L = (s.2 6).toInt ∧ (rC N τ o L).toInt < (s.2 7).toInt)) ∧ s' = s)))) ((f_X4_keepOrder N s (jabs (v3 - w)) v2).bind (fun (s_133 : gSt) =>
          some s_133)) := fun hb => (keep_c (N := N) (by omega) h5 hL).bind (fun s' hs' => Ok.some (Or.inr ⟨hv, Or.inl ⟨hb, _, eo, by rw [← eC]; exact hs'⟩⟩))
    have stay : ¬ (s.2 7 = -1 ∨ ofF N τ w o L < (s.2 6).toInt ∨ (ofF N τ w o L = (s.2 6).toInt ∧ (rC N τ o L).toInt < (s.2 7).toInt)) → Ok (fun (s' : gSt) => (¬ vl N τ o L ∧ s' = s) ∨ (vl N τ o L ∧ (((s.2 7 = -1 ∨ ofF N τ w o L < (s.2 6).toInt ∨ (ofF N τ w o L = (s.2 6).toInt ∧ (rC N τ o L).toInt < (s.2 7).toInt)) ∧ ∃ f, f.toInt = ofF N τ w o L ∧ KO L f (rC N τ o L) s s') ∨ (¬ (s.2 7 = -1 ∨ ofF N τ w o L < (s.2 6).toInt ∨ (ofF N τ w o L = (s.2 6).toInt ∧ (rC N τ o L).toInt < (s.2 7).toInt)) ∧ s' = s)))) (some s) := fun hb => Ok.some (Or.inr ⟨hv, Or.inr ⟨hb, rfl⟩⟩)
    by_cases c2 : s.2 7 = -1
    · exact okt c2 (keep (Or.inl c2))
    · refine okf c2 ?_
      by_cases c3 : jabs (v3 - w) < s.2 6
      · refine okt c3 (keep (Or.inr (Or.inl ?_)))
        rw [tlt, eo] at c3
        exact c3
      · refine okf c3 ?_
        rw [tlt, eo] at c3
        by_cases c4 : jabs (v3 - w) = s.2 6
        · refine okt c4 ?_
          rw [teq, eo] at c4
          by_cases c5 : s.2 7 ≤ v2
          · refine okt c5 (stay ?_)
            rw [tle, eC] at c5
            rintro (h | h | h)
            · exact c2 h
            · exact c3 h
            · omega
          · refine okf c5 (keep (Or.inr (Or.inr ⟨c4, ?_⟩)))
            rw [tle, eC] at c5
            omega
        · refine okf c4 (stay ?_)
          rw [teq, eo] at c4
          rintro (h | h | h)
          · exact c2 h
          · exact c3 h
          · exact c4 h.1
  · refine okf c1 ?_
    rw [tle, h5, e4, h4] at c1
    obtain ⟨o1, i1⟩ := ho k (by omega)
    obtain ⟨o2, i2⟩ := ho (k + 1) (by omega)
    have x1 := i1.1
    have x2 := i1.2
    have y1 := i2.1
    have y2 := i2.2
    have ek : (f_X4_legNumber (o k) (o (k + 1))).toInt = ky (o k) (o (k + 1)) := by
      unfold f_X4_legNumber ky
      have q : (o k * 12).toInt = (o k).toInt * 12 := by rw [tmul (by rw [tl12]; omega), tl12]
      rw [tadd (by rw [q]; omega), q]
      omega
    have k144 : ky (o k) (o (k + 1)) < 144 := by unfold ky; omega
    obtain ⟨t1, t2⟩ := hT k (k + 1) (by omega) (by omega)
    have G1 : gget s 12 (f_X4_legNumber (o k) (o (k + 1))) = lgC N τ o k := by
      rw [gget_in (by omega) (by rw [len14.2.2.1]; omega), ek]
      exact t1
    have G2 : gget s 13 (f_X4_legNumber (o k) (o (k + 1))) = lgK N τ o k := by
      rw [gget_in (by omega) (by rw [len14.2.2.2]; omega), ek]
      exact t2
    rw [get14 h4 (by omega), get14 (j := k + 1) (by omega) (by omega), o1, o2, G1, G2]
    by_cases c2 : lgC N τ o k = -1
    · refine okt c2 (Ok.some (Or.inl ⟨fun h => h ?_, rfl⟩))
      have := sumR_stop (sumR_none (k := lgC N τ o) c2) (L - 1 - (k + 1))
      rw [show k + 1 + (L - 1 - (k + 1)) = L - 1 by omega] at this
      exact this
    · have n0 : sumR (lgC N τ o) (lgC N τ o) k ≠ -1 := by rw [← h2]; exact hn
      have n1 : sumR (lgC N τ o) (lgK N τ o) k ≠ -1 := fun e => n0 ((sumR_both g0 g1 k (by omega) (by omega)).mpr e)
      have s0 := sumR_next n0 c2
      have s1 := sumR_next n1 c2
      refine okf c2 (ih (m - 1) _ _ (v4 + 1) (by omega) ⟨k + 1, by omega, by omega, by omega, by rw [s0, h2], by rw [s1, h3], ?_⟩)
      rw [h2, ← s0]
      have b0 := g0 k (by omega)
      have a0 := sumR_ok g0 k (by omega) (by omega)
      rw [s0]
      have a0' := a0.resolve_left n0
      have b0' := b0.resolve_left c2
      intro e
      rw [teq, tadd (by omega), tlm1] at e
      omega
