/-! ===== pure: draw, both sides ===== -/
theorem draw_m {τ : gSt} {N n : Nat} {x step : Int32} {r : Option (Int32 × gSt)} (hI : Inv τ) (hN : 24 < N) (hn : (τ.2 3).toInt = n) (hn2 : n ≤ 24) (hx : 0 ≤ x.toInt ∧ x.toInt ≤ 7874) (hs : 1 ≤ step.toInt ∧ step.toInt ≤ 10) (h0 : 0 < n) (hd : τ.2 4 = 0) (go : ∀ t, Km (g_sf τ 6 0) t → (∀ i, i < n → t.1 17 i = lotX x (i + 1)) → gLoop3 (fun (self107 : Int32 → Int32 → gSt → Option (Int32 × gSt)) (v4_107 : Int32) (v5_107 : Int32) (s_107 : gSt) =>
                  if 5 ≤ v5_107 then
                    some (v4_107, s_107)
                  else
                    (f_X10_next N s_107 v5_107 (-1)).bind (fun (r_120 : Int32) => gLoop4 (bM N v5_107 step (fun a u => self107 a (v5_107 + 1) u)) N v4_107 0 r_120 s_107)) N 0 0 (g_sf t 4 1) = r) : f_X10_draw N τ x step = r := by
  unfold f_X10_draw
  refine (if_neg (c := f_X10_in x 0 7874 = 0) (by rw [in_yes (by rw [tl0]; exact hx.1) (show x.toInt ≤ (7874 : Int32).toInt by rw [tl7874]; exact hx.2)]; exact one_ne)).trans ?_
  refine (if_neg (c := f_X10_in step 1 10 = 0) (by rw [in_yes (by rw [tl1]; exact hs.1) (show step.toInt ≤ (10 : Int32).toInt by rw [tl10]; exact hs.2)]; exact one_ne)).trans ?_
  refine (if_neg (c := τ.2 3 ≤ 0) (by rw [tle, tl0]; omega)).trans ?_
  refine (if_pos hd).trans ?_
  refine (if_neg (by rw [asked2_2 one_ne one_ne]; exact one_ne)).trans ?_
  rw [asked2_2 one_ne one_ne]
  refine gLoop3_eq (fun m u (v : Int32) s => (0 ≤ v.toInt ∧ v.toInt ≤ (n : Int)) ∧ (m : Int) = 24 - v.toInt ∧ Km (g_sf τ 6 0) s ∧ u = lotX x v.toInt.toNat ∧ ∀ i : Nat, (i : Int) < v.toInt → s.1 17 i = lotX x (i + 1)) ?_ N 24 x 0 _ hN ⟨by rw [tl0]; omega, by rw [tl0]; rfl, Km.rf, rfl, fun i hi => by rw [tl0] at hi; omega⟩
  intro m u v s self ⟨hv, hm, hK, hu, hl⟩ ih
  have e10 : s.2 3 = τ.2 3 := hK.2 3 (by decide)
  rw [e10]
  by_cases c : τ.2 3 ≤ v
  · rw [if_pos c]
    rw [tle, hn] at c
    exact go s hK (fun i hi => hl i (by omega))
  · rw [if_neg c]
    rw [tle, hn] at c
    have e1 := inc1 (v := v) (n := 24) (by omega) (by omega)
    rw [if_neg (by rw [tlt, tl0, tcl]; omega)]
    refine ih (m - 1) _ (v + 1) _ (by omega) ⟨by rw [e1]; omega, by rw [e1]; omega, hK.pa (by decide), ?_, fun i hi => ?_⟩
    · rw [e1, show (v.toInt + 1).toNat = v.toInt.toNat + 1 by omega, hu]
      rfl
    · rw [e1] at hi
      rw [pa_1, if_pos rfl, upd_at]
      by_cases e : i = v.toInt.toNat
      · rw [if_pos e, hu, e]
        rfl
      · rw [if_neg e]
        exact hl i (by omega)
