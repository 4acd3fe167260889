/-! ===== pure: the lots on both sides ===== -/
theorem lots_c {σ : gSt} {N n : Nat} {x step : Int32} {P : Int32 × gSt → Prop} (hN : 24 < N) (hn : (σ.2 10).toInt = n) (hn2 : n ≤ 24) (go : ∀ s, Kc σ s → (∀ i, i < n → s.1 18 i = lotX x (i + 1)) → Ok P (gLoop3 (fun (self50 : Int32 → Int32 → gSt → Option (Int32 × gSt)) (v4_50 : Int32) (v5_50 : Int32) (s_50 : gSt) =>
        if 5 ≤ v5_50 then
          some (v4_50, g_sf s_50 11 1)
        else
          (f_X3_startKlass N s_50 v5_50 step).bind (fun (q_62 : Int32 × gSt) =>
          self50 (jmax v4_50 q_62.1) (v5_50 + 1) q_62.2)) N 0 0 s)) : Ok P (f_X3_drawStarts N σ x step) := by
  unfold f_X3_drawStarts
  refine gLoop3_ok (fun m u (v : Int32) s => (0 ≤ v.toInt ∧ v.toInt ≤ (n : Int)) ∧ (m : Int) = 24 - v.toInt ∧ Kc σ s ∧ u = lotX x v.toInt.toNat ∧ ∀ i : Nat, (i : Int) < v.toInt → s.1 18 i = lotX x (i + 1)) ?_ N 24 x 0 σ hN ⟨by rw [tl0]; omega, by rw [tl0]; rfl, Kc.rf, rfl, fun i hi => by rw [tl0] at hi; omega⟩
  intro m u v s self ⟨hv, hm, hK, hu, hl⟩ ih
  have e10 : s.2 10 = σ.2 10 := hK.2 10 (by unfold cf; decide)
  rw [e10]
  by_cases c : σ.2 10 ≤ v
  · refine okt c (go s hK (fun i hi => hl i ?_))
    rw [tle, hn] at c
    omega
  · refine okf c ?_
    rw [tle, hn] at c
    have e1 := inc1 (v := v) (n := 24) (by omega) (by omega)
    refine ih (m - 1) _ (v + 1) _ (by omega) ⟨by rw [e1]; omega, by rw [e1]; omega, ?_, ?_, fun i hi => ?_⟩
    · rw [gput_pa hv.1 (by rw [len30.2.2.2.2.2.2.2.2.2]; omega)]
      exact hK.sa (by unfold ck; decide)
    · rw [e1, show (v.toInt + 1).toNat = v.toInt.toNat + 1 by omega, hu]
      rfl
    · rw [e1] at hi
      rw [gput_pa hv.1 (by rw [len30.2.2.2.2.2.2.2.2.2]; omega), pa_1, if_pos rfl, upd_at]
      by_cases e : i = v.toInt.toNat
      · rw [if_pos e, hu, e]
        rfl
      · rw [if_neg e]
        exact hl i (by omega)
