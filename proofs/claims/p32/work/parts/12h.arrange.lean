/-! ===== pure: the reference arranges ===== -/
theorem fin_m {u : gSt} {N c L : Nat} {x1 len v5 : Int32} {P : Int32 × gSt → Prop} (hN : 200 < N) (hx : x1.toInt = c) (hc : c < 5) (hlen : len.toInt = L) (hL : L ≤ 6) (go : ∀ t : gSt, ((1000000000 ≤ v5.toInt ∧ t = u) ∨ (v5.toInt < 1000000000 ∧ (∀ r, r ≠ 4 → t.1 r = u.1 r) ∧ (∀ k, t.2 k = u.2 k) ∧ (∀ j, j < L → t.1 4 (6 * c + j) = u.1 19 j) ∧ ∀ j, j < 6 * c ∨ 6 * c + L ≤ j → t.1 4 j = u.1 4 j)) → Ok P ((f_X10_sumOfCourse N t x1 1).bind (fun (q : Int32 × gSt) => some (q.1, q.2)))) : Ok P (gLoop2 (fun (self274 : Int32 → gSt → Option (Int32 × gSt)) (v7_274 : Int32) (s_274 : gSt) =>
                  gJoin0 (
                      (f_X10_sumOfCourse N s_274 x1 1).bind (fun (q_315 : Int32 × gSt) =>
                      some (q_315.1, q_315.2))) (fun j312 =>
                    if len ≤ v7_274 then
                      j312
                    else
                      if 1000000000 ≤ v5 then
                        j312
                      else
                        if v7_274 < 0 ∨ 6 ≤ v7_274.toNatClampNeg then none else
                        if (6 * x1) + v7_274 < 0 ∨ 30 ≤ ((6 * x1) + v7_274).toNatClampNeg then none else
                        self274 (v7_274 + 1) (g_pa s_274 4 ((6 * x1) + v7_274) (g_ga s_274 19 v7_274)))) N 0 u) := by
  have hkx : isK x1 := ⟨by omega, by omega⟩
  refine gLoop2_ok (fun m (v : Int32) (t : gSt) => ∃ k : Nat, v.toInt = k ∧ k ≤ L ∧ (m : Int) = 6 - k ∧ (1000000000 ≤ v5.toInt → t = u) ∧ (∀ r, r ≠ 4 → t.1 r = u.1 r) ∧ (∀ k, t.2 k = u.2 k) ∧ (∀ j, j < k → t.1 4 (6 * c + j) = u.1 19 j) ∧ ∀ j, j < 6 * c ∨ 6 * c + L ≤ j → t.1 4 j = u.1 4 j) ?_ N 6 0 u (by omega) ⟨0, rfl, by omega, by omega, fun _ => rfl, fun _ _ => rfl, fun _ => rfl, fun j hj => by omega, fun _ _ => rfl⟩
  intro m v t self ⟨k, hv, hk, hm, k0, k1, k2, k3, k4⟩ ih
  refine ok0 ?_
  by_cases c2 : 1000000000 ≤ v5
  · have c2' : 1000000000 ≤ v5.toInt := by rw [tle, tlfar] at c2; exact c2
    by_cases c1 : len ≤ v
    · exact okt c1 (go t (Or.inl ⟨c2', k0 c2'⟩))
    · exact okf c1 (okt c2 (go t (Or.inl ⟨c2', k0 c2'⟩)))
  · have c2' : v5.toInt < 1000000000 := by rw [tle, tlfar] at c2; omega
    by_cases c1 : len ≤ v
    · refine okt c1 (go t (Or.inr ⟨c2', k1, k2, fun j hj => k3 j ?_, k4⟩))
      rw [tle, hlen, hv] at c1
      omega
    · rw [tle, hlen, hv] at c1
      have e1 := inc1 (v := v) (n := 6) (by omega) (by omega)
      have ep : (6 * x1 + v).toInt = (6 * c + k : Nat) := by rw [ent_in hkx (by omega) (by omega), hx, hv]; omega
      have a19 : g_ga t 19 v = u.1 19 k := by rw [ga_at hv, k1 19 (by decide)]
      refine okf (by rw [tle, hlen, hv]; exact c1) (okf c2 (okf (gd (by omega) (by omega)) (okf (gd (by omega) (by omega)) ?_)))
      rw [a19]
      refine ih (m - 1) (v + 1) _ (by omega) ⟨k + 1, by omega, by omega, by omega, fun h => by omega, fun r hr => by rw [pa_1, if_neg hr]; exact k1 r hr, k2, fun j hj => ?_, fun j hj => ?_⟩
      · rw [pa_1, if_pos rfl, upd_at, ep]
        by_cases e : j = k
        · rw [if_pos (by omega), e]
        · rw [if_neg (by omega)]
          exact k3 j (by omega)
      · rw [pa_1, if_pos rfl, upd_at, ep, if_neg (by omega)]
        exact k4 j hj
theorem tail_m {self : Int32 → Int32 → Int32 → gSt → Option (Int32 × gSt)} {u : gSt} {N L : Nat} {len v5 v6 v7 w133 w152 w201 : Int32} {P : Int32 × gSt → Prop} (hN : 200 < N) (hlen : len.toInt = L) (hL : L ≤ 6) (g0 : w201 = 0 → Ok P (self v5 v6 (v7 + 1) u)) (g1 : w201 ≠ 0 → ∀ u' : gSt, Ko 19 u u' → (∀ j, j < L → u'.1 19 j = u.1 18 j) → Ok P (self w152 w133 (v7 + 1) u')) : Ok P (gLoop2 (fun (self206 : Int32 → gSt → Option (Int32 × gSt)) (v12_206 : Int32) (s_206 : gSt) =>
                                  gJoin0 (
                                      gJoin1 (fun (w0_249 : Int32) =>
                                          gJoin1 (fun (w0_263 : Int32) =>
                                              self w0_249 w0_263 (v7 + 1) s_206) (fun j263 =>
                                            if w201 = 0 then
                                              j263 v6
                                            else
                                              j263 w133)) (fun j249 =>
                                        if w201 = 0 then
                                          j249 v5
                                        else
                                          j249 w152)) (fun j237 =>
                                    if len ≤ v12_206 then
                                      j237
                                    else
                                      if w201 = 0 then
                                        j237
                                      else
                                        if v12_206 < 0 ∨ 6 ≤ v12_206.toNatClampNeg then none else
                                        if v12_206 < 0 ∨ 6 ≤ v12_206.toNatClampNeg then none else
                                        self206 (v12_206 + 1) (g_pa s_206 19 v12_206 (g_ga s_206 18 v12_206)))) N 0 u) := by
  refine gLoop2_ok (fun m (v : Int32) (t : gSt) => ∃ k : Nat, v.toInt = k ∧ k ≤ L ∧ (m : Int) = 6 - k ∧ (w201 = 0 → t = u) ∧ Ko 19 u t ∧ ∀ j, j < k → t.1 19 j = u.1 18 j) ?_ N 6 0 u (by omega) ⟨0, rfl, by omega, by omega, fun _ => rfl, Ko.rf, fun j hj => by omega⟩
  intro m v t self2 ⟨k, hv, hk, hm, k0, k1, k2⟩ ih
  refine ok0 ?_
  by_cases c2 : w201 = 0
  · have go : Ok P (self v5 v6 (v7 + 1) t) := by rw [k0 c2]; exact g0 c2
    by_cases c1 : len ≤ v
    · exact okt c1 (okz (okt c2 (okz (okt c2 go))))
    · exact okf c1 (okt c2 (okz (okt c2 (okz (okt c2 go)))))
  · by_cases c1 : len ≤ v
    · refine okt c1 (okz (okf c2 (okz (okf c2 (g1 c2 t k1 (fun j hj => k2 j ?_))))))
      rw [tle, hlen, hv] at c1
      omega
    · rw [tle, hlen, hv] at c1
      have e1 := inc1 (v := v) (n := 6) (by omega) (by omega)
      have gv := gd (x := v) (n := 6) (by omega) (by omega)
      have a18 : g_ga t 18 v = u.1 18 k := by rw [ga_at hv, k1.1 18 (by decide)]
      refine okf (by rw [tle, hlen, hv]; exact c1) (okf c2 (okf gv (okf gv ?_)))
      rw [a18]
      refine ih (m - 1) (v + 1) _ (by omega) ⟨k + 1, by omega, by omega, by omega, fun h => absurd h c2, k1.pa, fun j hj => ?_⟩
      rw [pa_1, if_pos rfl, upd_at, hv]
      by_cases e : j = k
      · rw [if_pos (by omega), e]
      · rw [if_neg (by omega)]
        exact k2 j (by omega)
theorem apart_m {a w : Int32} (ha : 0 ≤ a.toInt ∧ a.toInt ≤ 1000000) (hw : 0 ≤ w.toInt ∧ w.toInt ≤ 9999) : (f_X10_apart a w).toInt = ((a.toInt - w.toInt).natAbs : Nat) := by
  unfold f_X10_apart
  split
  · rename_i h
    simp only [tle, tlt] at h
    rw [tsub (by omega)]
    omega
  · rename_i h
    simp only [tle, tlt] at h
    rw [tsub (by omega)]
    omega
theorem tot2_K {N L : Nat} {τ : gSt} {o : Nat → Int32} (hL : 2 ≤ L) : tot2 N τ 1 o L = rK N τ o L := by
  unfold tot2 totR rK
  rw [if_neg (by omega), if_neg one_ne]
theorem tot2_C {N L : Nat} {τ : gSt} {o : Nat → Int32} (hL : 2 ≤ L) : tot2 N τ 0 o L = rC N τ o L := by
  unfold tot2 totR rC
  rw [if_neg (by omega), if_pos rfl]
/-- the best so far, of the codes below k -/
def BRM (N : Nat) (τ : gSt) (w : Int32) (m c k : Nat) (v5 v6 : Int32) (u : gSt) : Prop := (v5 = 1000000000 ∧ ∀ i, i < k → gdC m i → ¬ vl N τ (codR m (oC τ c) i) (m + 2)) ∨ (v5.toInt = ofF N τ w (u.1 19) (m + 2) ∧ v6.toInt = (rC N τ (u.1 19) (m + 2)).toInt ∧ vl N τ (u.1 19) (m + 2) ∧ RA m (u.1 19) (oC τ c) ∧ ∀ i, i < k → gdC m i → vl N τ (codR m (oC τ c) i) (m + 2) → leR N τ w (m + 2) (u.1 19) (codR m (oC τ c) i))
def MB (c L : Nat) (b : Nat → Int32) (τ t : gSt) : Prop := (∀ r, r ≤ 11 → r ≠ 4 → t.1 r = τ.1 r) ∧ (∀ k, k ≤ 4 ∨ k = 6 → t.2 k = τ.2 k) ∧ (∀ j, j < L → t.1 4 (6 * c + j) = b j) ∧ ∀ j, j < 6 * c ∨ 6 * c + L ≤ j → t.1 4 j = τ.1 4 j
theorem codes_m {T0 : gSt} {N c : Nat} {x1 w len K : Int32} {P : Int32 × gSt → Prop} (hI : Inv T0) (hN : 1000000000000000000000 < N) (hx : x1.toInt = c) (hc : c < 5) (hw : 0 ≤ w.toInt ∧ w.toInt ≤ 9999) (hlen : len = T0.1 5 c) (hK : (ln T0 c < 4 ∧ K = 0) ∨ (∃ m, ln T0 c = m + 2 ∧ 2 ≤ m ∧ m < 5 ∧ K.toInt = (6 ^ m : Nat))) (go : ∀ t, (Km T0 t ∧ (ln T0 c < 4 ∨ noB N T0 c (ln T0 c))) ∨ (4 ≤ ln T0 c ∧ ∃ b, isB N T0 w c (ln T0 c) b ∧ MB c (ln T0 c) b T0 t) → Ok P ((f_X10_sumOfCourse N t x1 1).bind (fun (q : Int32 × gSt) => some (q.1, q.2)))) : Ok P (gLoop4 (fun (self87 : Int32 → Int32 → Int32 → gSt → Option (Int32 × gSt)) (v5_87 : Int32) (v6_87 : Int32) (v7_87 : Int32) (s_87 : gSt) =>
              if K ≤ v7_87 then
                gLoop2 (fun (self274 : Int32 → gSt → Option (Int32 × gSt)) (v7_274 : Int32) (s_274 : gSt) =>
                  gJoin0 (
                      (f_X10_sumOfCourse N s_274 x1 1).bind (fun (q_315 : Int32 × gSt) =>
                      some (q_315.1, q_315.2))) (fun j312 =>
                    if len ≤ v7_274 then
                      j312
                    else
                      if 1000000000 ≤ v5_87 then
                        j312
                      else
                        if v7_274 < 0 ∨ 6 ≤ v7_274.toNatClampNeg then none else
                        if (6 * x1) + v7_274 < 0 ∨ 30 ≤ ((6 * x1) + v7_274).toNatClampNeg then none else
                        self274 (v7_274 + 1) (g_pa s_274 4 ((6 * x1) + v7_274) (g_ga s_274 19 v7_274)))) N 0 s_87
              else
                (f_X10_lays N s_87 x1 v7_87).bind (fun (q_98 : Int32 × gSt) =>
                gJoin2 (fun (w0_114 : Int32) (s_114 : gSt) =>
                    gJoin2 (fun (w0_133 : Int32) (s_133 : gSt) =>
                        gJoin1 (fun (w0_152 : Int32) =>
                            gJoin1 (fun (w0_201 : Int32) =>
                                gLoop2 (fun (self206 : Int32 → gSt → Option (Int32 × gSt)) (v12_206 : Int32) (s_206 : gSt) =>
                                  gJoin0 (
                                      gJoin1 (fun (w0_249 : Int32) =>
                                          gJoin1 (fun (w0_263 : Int32) =>
                                              self87 w0_249 w0_263 (v7_87 + 1) s_206) (fun j263 =>
                                            if w0_201 = 0 then
                                              j263 v6_87
                                            else
                                              j263 w0_133)) (fun j249 =>
                                        if w0_201 = 0 then
                                          j249 v5_87
                                        else
                                          j249 w0_152)) (fun j237 =>
                                    if len ≤ v12_206 then
                                      j237
                                    else
                                      if w0_201 = 0 then
                                        j237
                                      else
                                        if v12_206 < 0 ∨ 6 ≤ v12_206.toNatClampNeg then none else
                                        if v12_206 < 0 ∨ 6 ≤ v12_206.toNatClampNeg then none else
                                        self206 (v12_206 + 1) (g_pa s_206 19 v12_206 (g_ga s_206 18 v12_206)))) N 0 s_133) (fun j201 =>
                            gJoin0 (
                                j201 0) (fun j200 =>
                              if w0_114 = (-1) then
                                j200
                              else
                                gJoin0 (
                                    j201 1) (fun j196 =>
                                  if w0_152 < v5_87 then
                                    j196
                                  else
                                    if w0_152 = v5_87 then
                                      if w0_133 < v6_87 then
                                        j196
                                      else
                                        if w0_133 = v6_87 then
                                          (f_X10_isLess N s_133 (len)).bind (fun (r_190 : Int32) =>
                                          if r_190 = 0 then
                                            j200
                                          else
                                            j196)
                                        else
                                          j200
                                    else
                                      j200)))) (fun j152 =>
                          if w0_114 = (-1) then
                            j152 1000000000
                          else
                            j152 (f_X10_apart w0_114 w))) (fun j133 =>
                      if w0_114 = (-1) then
                        j133 1000000000 s_114
                      else
                        (f_X10_sumOf N s_114 (len) 0).bind (fun (q_130 : Int32 × gSt) =>
                        j133 q_130.1 q_130.2))) (fun j114 =>
                  if q_98.1 = 0 then
                    j114 (-1) q_98.2
                  else
                    (f_X10_sumOf N q_98.2 (len) 1).bind (fun (q_107 : Int32 × gSt) =>
                    j114 q_107.1 q_107.2)))) N 1000000000 1000000000 0 T0) := by
  obtain ⟨l1, l2, l3⟩ := crs_in hI hc
  have hlenI : len.toInt = ln T0 c := by rw [hlen]; exact l1
  rcases hK with ⟨hL, rfl⟩ | ⟨m, hL, hm2, hm5, hK⟩
  · refine gLoop4_ok (fun n (v5 v6 v7 : Int32) (u : gSt) => v5 = 1000000000 ∧ v7 = 0 ∧ u = T0) ?_ N 0 _ _ _ _ (by omega) ⟨rfl, rfl, rfl⟩
    intro n v5 v6 v7 u self ⟨h5, h7, hu⟩ ih
    refine okt (by rw [h7]; decide) ?_
    refine fin_m (N := N) (by omega) hx hc hlenI l2 (fun t ht => go t (Or.inl ⟨?_, Or.inl hL⟩))
    rcases ht with ⟨_, e⟩ | ⟨e, _⟩
    · rw [e, hu]; exact Km.rf
    · rw [h5, tlfar] at e
      omega
  · rw [hL] at l2 l3 hlenI go
    have hd : ∀ i j, i < j → j < m + 2 → oC T0 c i ≠ oC T0 c j := fun i j h1 h2 => hI.2.2.1.2.2 c i j hc h1 (by unfold ln at hL; omega)
    have A0 := RA.rf hd
    have isA : ∀ o, RA m o (oC T0 c) → ∀ j, j < m + 2 → isC T0 (o j) := fun o ho j hj => by
      obtain ⟨b1, b2, b3, b4, b5⟩ := ho
      match j, hj with
      | 0, _ => rw [b1]; exact l3 0 (by omega)
      | j + 1, hj =>
        by_cases e : j < m
        · obtain ⟨i, i1, i2⟩ := b3 j e
          rw [i2]
          exact l3 (i + 1) (by omega)
        · rw [show j = m by omega, b2]
          exact l3 (m + 1) (by omega)
    have rowA : ∀ i, i < 6 ^ m → gdC m i → RA m (codR m (oC T0 c) i) (oC T0 c) := fun i hi hg => by
      obtain ⟨t, t1, t2⟩ := cod_ord (A := oC T0 c) hm2 hm5 hi hg
      exact (ordR_RA A0 hm5 t1).congr t2
    have K4 : (6 ^ m : Nat) ≤ 1296 := by
      match m, hm2, hm5 with
      | 2, _, _ => decide
      | 3, _, _ => decide
      | 4, _, _ => decide
    generalize hKK : 6 ^ m = KK at *
    refine gLoop4_ok (fun n (v5 v6 v7 : Int32) (u : gSt) => ∃ k : Nat, v7.toInt = k ∧ k ≤ KK ∧ (n : Int) = 1296 - k ∧ Km T0 u ∧ BRM N T0 w m c k v5 v6 u) ?_ N 1296 _ _ _ _ (by omega) ⟨0, rfl, by omega, by omega, Km.rf, Or.inl ⟨rfl, fun i hi => by omega⟩⟩
    intro n v5 v6 v7 u self ⟨k, h7, hk, hn, hKm, hB⟩ ih
    by_cases c1 : K ≤ v7
    · refine okt c1 ?_
      rw [tle, hK, h7] at c1
      have hkK : k = KK := by omega
      refine fin_m (N := N) (by omega) hx hc hlenI l2 (fun t ht => go t ?_)
      rcases hB with ⟨b1, b2⟩ | ⟨b1, b2, b3, b4, b5⟩
      · refine Or.inl ⟨?_, Or.inr (fun o ho hv => ?_)⟩
        · rcases ht with ⟨_, e⟩ | ⟨e, _⟩
          · rw [e]; exact hKm
          · rw [b1, tlfar] at e
            omega
        · obtain ⟨t', t1, t2⟩ := ho.cover hm5 A0
          obtain ⟨i, i1, i2, i3⟩ := ord_cod (A := oC T0 c) hm2 hm5 t1
          exact b2 i (by omega) i2 ((vl_eq (t2.trans i3.symm)).mp hv)
      · have hin := (sums_in (N := N) hI hN l2 (isA _ b4)).2 b3
        have hof : v5.toInt < 1000000000 := by
          rw [b1]
          unfold ofF
          omega
        rcases ht with ⟨e, _⟩ | ⟨_, e1, e2, e3, e4⟩
        · omega
        · refine Or.inr ⟨by omega, u.1 19, ⟨b4, b3, fun o ho hv => ?_⟩, fun r hr h4 => (e1 r h4).trans (hKm.1 r hr), fun q hq => (e2 q).trans (hKm.2 q hq), e3, fun j hj => (e4 j hj).trans (congrFun (hKm.1 4 (by decide)) j)⟩
          obtain ⟨t', t1, t2⟩ := ho.cover hm5 A0
          obtain ⟨i, i1, i2, i3⟩ := ord_cod (A := oC T0 c) hm2 hm5 t1
          have e := t2.trans i3.symm
          exact (b5 i (by omega) i2 ((vl_eq e).mp hv)).right e.symm
    · refine okf c1 ?_
      rw [tle, hK, h7] at c1
      have e7 := inc1 (v := v7) (n := 1296) (by omega) (by omega)
      refine (lays_m (N := N) (by omega) hKm hx hc (by rw [l1, hL]; rfl) hm2 hm5 h7).bind (fun q hq => ok2 ?_)
      obtain ⟨fl, s1⟩ := q
      obtain ⟨o1, o2, o3⟩ := hq
      dsimp only at o1 o2 o3 ⊢
      have K1 : Km T0 s1 := hKm.trans (o1.km (by decide))
      have s19 : s1.1 19 = u.1 19 := o1.1 19 (by decide)
      have old : ∀ i, i < k + 1 → i = k ∨ i < k := fun i hi => by omega
      have same : ∀ u', Km T0 u' → u'.1 19 = u.1 19 → (gdC m k → vl N T0 (codR m (oC T0 c) k) (m + 2) → ¬ v5 = 1000000000 ∧ leR N T0 w (m + 2) (u.1 19) (codR m (oC T0 c) k)) → Ok P (self v5 v6 (v7 + 1) u') := fun u' g1 g2 g3 => ih (n - 1) v5 v6 (v7 + 1) u' (by omega) ⟨k + 1, by omega, by omega, by omega, g1, by
        unfold BRM at hB ⊢
        rw [g2]
        rcases hB with ⟨b1, b2⟩ | ⟨b1, b2, b3, b4, b5⟩
        · exact Or.inl ⟨b1, fun i hi hg => (old i hi).elim (fun e => by
            rw [e] at hg ⊢
            exact fun hv => (g3 hg hv).1 b1) (fun e => b2 i e hg)⟩
        · exact Or.inr ⟨b1, b2, b3, b4, fun i hi hg hv => (old i hi).elim (fun e => by
            rw [e] at hg hv ⊢
            exact (g3 hg hv).2) (fun e => b5 i e hg hv)⟩⟩
      rcases o2 with ⟨f1, hg⟩ | ⟨f1, hg⟩
      · have hRA := rowA k (by omega) hg
        have hin := sums_in (N := N) hI hN l2 (isA _ hRA)
        refine okf (by rw [f1]; exact one_ne) ((sumOf_m (o := codR m (oC T0 c) k) hI K1 hN hlenI l2 (fun j hj => ⟨o3 j hj, isA _ hRA j hj⟩)).bind (fun q hq => ?_))
        obtain ⟨a, s2⟩ := q
        obtain ⟨a1, K2, r2⟩ := hq
        dsimp only at a1 K2 r2 ⊢
        rw [tot2_K (by omega)] at a1
        have s2_19 : s2.1 19 = u.1 19 := (r2.1 19 (by decide) (by decide)).trans s19
        refine ok2 ?_
        by_cases c2 : a = -1
        · have hnv : ¬ vl N T0 (codR m (oC T0 c) k) (m + 2) := fun h => h (hin.1.mpr (a1.symm.trans c2))
          refine okt c2 (okz (okt c2 (okz (ok0 (okt c2 ?_)))))
          exact tail_m (N := N) (by omega) hlenI l2 (fun _ => same s2 K2 s2_19 (fun _ h => absurd h hnv)) (fun h => absurd rfl h)
        · have hv : vl N T0 (codR m (oC T0 c) k) (m + 2) := fun h => c2 (a1.trans (hin.1.mp h))
          obtain ⟨i1, i2⟩ := hin.2 hv
          refine okf c2 ((sumOf_m (o := codR m (oC T0 c) k) hI K2 hN hlenI l2 (fun j hj => ⟨by rw [r2.1 18 (by decide) (by decide)]; exact o3 j hj, isA _ hRA j hj⟩)).bind (fun q hq => ?_))
          obtain ⟨b, s3⟩ := q
          obtain ⟨b1, K3, r3⟩ := hq
          dsimp only at b1 K3 r3 ⊢
          rw [tot2_C (by omega)] at b1
          have s3_19 : s3.1 19 = u.1 19 := (r3.1 19 (by decide) (by decide)).trans s2_19
          have s3_18 : eqR (m + 2) (s3.1 18) (codR m (oC T0 c) k) := fun j hj => by
            rw [r3.1 18 (by decide) (by decide), r2.1 18 (by decide) (by decide)]
            exact o3 j hj
          have eo : (f_X10_apart a w).toInt = ofF N T0 w (codR m (oC T0 c) k) (m + 2) := by
            rw [apart_m (by rw [a1]; exact i2) hw, a1]
            rfl
          refine okz (okf c2 (okz (ok0 (okf c2 (ok0 ?_)))))
          have stay : (¬ v5 = 1000000000 ∧ leR N T0 w (m + 2) (u.1 19) (codR m (oC T0 c) k)) → Ok P (gLoop2 (fun (self206 : Int32 → gSt → Option (Int32 × gSt)) (v12_206 : Int32) (s_206 : gSt) =>
                                  gJoin0 (
                                      gJoin1 (fun (w0_249 : Int32) =>
                                          gJoin1 (fun (w0_263 : Int32) =>
                                              self w0_249 w0_263 (v7 + 1) s_206) (fun j263 =>
                                            if (0 : Int32) = 0 then
                                              j263 v6
                                            else
                                              j263 b)) (fun j249 =>
                                        if (0 : Int32) = 0 then
                                          j249 v5
                                        else
                                          j249 (f_X10_apart a w))) (fun j237 =>
                                    if len ≤ v12_206 then
                                      j237
                                    else
                                      if (0 : Int32) = 0 then
                                        j237
                                      else
                                        if v12_206 < 0 ∨ 6 ≤ v12_206.toNatClampNeg then none else
                                        if v12_206 < 0 ∨ 6 ≤ v12_206.toNatClampNeg then none else
                                        self206 (v12_206 + 1) (g_pa s_206 19 v12_206 (g_ga s_206 18 v12_206)))) N 0 s3) := fun h => tail_m (N := N) (by omega) hlenI l2 (fun _ => same s3 K3 s3_19 (fun _ _ => h)) (fun h => absurd rfl h)
          have take : (v5 = 1000000000 ∨ (btR N T0 w (m + 2) (codR m (oC T0 c) k) (u.1 19) ∨ (sqR N T0 w (m + 2) (codR m (oC T0 c) k) (u.1 19) ∧ ltR (m + 2) (codR m (oC T0 c) k) (u.1 19)))) → Ok P (gLoop2 (fun (self206 : Int32 → gSt → Option (Int32 × gSt)) (v12_206 : Int32) (s_206 : gSt) =>
                                  gJoin0 (
                                      gJoin1 (fun (w0_249 : Int32) =>
                                          gJoin1 (fun (w0_263 : Int32) =>
                                              self w0_249 w0_263 (v7 + 1) s_206) (fun j263 =>
                                            if (1 : Int32) = 0 then
                                              j263 v6
                                            else
                                              j263 b)) (fun j249 =>
                                        if (1 : Int32) = 0 then
                                          j249 v5
                                        else
                                          j249 (f_X10_apart a w))) (fun j237 =>
                                    if len ≤ v12_206 then
                                      j237
                                    else
                                      if (1 : Int32) = 0 then
                                        j237
                                      else
                                        if v12_206 < 0 ∨ 6 ≤ v12_206.toNatClampNeg then none else
                                        if v12_206 < 0 ∨ 6 ≤ v12_206.toNatClampNeg then none else
                                        self206 (v12_206 + 1) (g_pa s_206 19 v12_206 (g_ga s_206 18 v12_206)))) N 0 s3) := by
            intro h
            refine tail_m (N := N) (by omega) hlenI l2 (fun e => absurd e one_ne) (fun _ u' g1 g2 => ih (n - 1) _ _ (v7 + 1) u' (by omega) ⟨k + 1, by omega, by omega, by omega, K3.trans (g1.km (by decide)), ?_⟩)
            have h19 : eqR (m + 2) (u'.1 19) (codR m (oC T0 c) k) := fun j hj => (g2 j hj).trans (s3_18 j hj)
            have r1 := (rows_eq (N := N) (τ := T0) h19).1
            have ro := of_eq (N := N) (τ := T0) (w := w) h19
            have right : ∀ x, leR N T0 w (m + 2) (codR m (oC T0 c) k) x → leR N T0 w (m + 2) (u'.1 19) x := fun x hx => by
              unfold leR btR sqR at hx ⊢
              rw [r1, ro]
              rcases hx with hx | ⟨x1, x2⟩
              · exact Or.inl hx
              · refine Or.inr ⟨x1, x2.elim (fun g => Or.inl ?_) (fun g => Or.inr (h19.trans g))⟩
                obtain ⟨y, y1, y2, y3⟩ := g
                exact ⟨y, y1, fun j hj => (h19 j (by omega)).trans (y2 j hj), by rw [h19 y y1]; exact y3⟩
            refine Or.inr ⟨by rw [eo, ro], by rw [b1, r1], (vl_eq h19).mpr hv, hRA.congr h19, fun i hi hgi hvi => ?_⟩
            rcases old i hi with e | e
            · rw [e]
              exact Or.inr ⟨⟨ro, by rw [r1]⟩, Or.inr h19⟩
            · rcases hB with ⟨q1, q2⟩ | ⟨q1, q2, q3, q4, q5⟩
              · exact absurd hvi (q2 i e hgi)
              · refine right _ ?_
                have hle := q5 i e hgi hvi
                rcases h with h | h | ⟨h1, h2⟩
                · exfalso
                  have hin2 := (sums_in (N := N) hI hN l2 (isA _ q4)).2 q3
                  rw [h, tlfar] at q1
                  unfold ofF at q1
                  omega
                · exact h.le hle
                · unfold leR btR sqR at hle ⊢
                  unfold sqR at h1
                  rcases hle with hle | ⟨hl1, hl2⟩
                  · exact Or.inl (by omega)
                  · exact Or.inr ⟨by omega, Or.inl (hl2.elim (fun g => h2.trans g) (fun g => h2.eq g))⟩
          -- which is better
          by_cases d0 : v5 = 1000000000
          · refine okt ?_ (take (Or.inl d0))
            rw [d0, tlt, tlfar, eo]
            unfold ofF
            omega
          · rcases hB with ⟨q1, _⟩ | ⟨q1, q2, q3, q4, q5⟩
            · exact absurd q1 d0
            · by_cases d1 : f_X10_apart a w < v5
              · refine okt d1 (take (Or.inr (Or.inl (Or.inl ?_))))
                rw [tlt, eo, q1] at d1
                exact d1
              · refine okf d1 ?_
                rw [tlt, eo, q1] at d1
                by_cases d2 : f_X10_apart a w = v5
                · refine okt d2 ?_
                  rw [teq, eo, q1] at d2
                  by_cases d3 : b < v6
                  · refine okt d3 (take (Or.inr (Or.inl (Or.inr ⟨d2, ?_⟩))))
                    rw [tlt, b1, q2] at d3
                    exact d3
                  · refine okf d3 ?_
                    rw [tlt, b1, q2] at d3
                    by_cases d4 : b = v6
                    · refine okt d4 ?_
                      rw [teq, b1, q2] at d4
                      refine (isLess_m (N := N) (by omega) hlenI (by omega) l2).bind (fun r hr => ?_)
                      rw [s3_19] at hr
                      rcases hr with ⟨x1, y1, y2, y3, y4⟩ | ⟨x1, x2⟩
                      · refine okf (by rw [x1]; exact one_ne) (take (Or.inr (Or.inr ⟨⟨d2, d4⟩, y1, y2, fun j hj => (s3_18 j (by omega)).symm.trans (y3 j hj), by rw [← s3_18 y1 y2]; exact y4⟩)))
                      · refine okt x1 (stay ⟨d0, Or.inr ⟨⟨d2.symm, d4.symm⟩, ?_⟩⟩)
                        rcases ltR.total (o := u.1 19) (p := codR m (oC T0 c) k) (m + 2) with z | z | z
                        · exact Or.inl z
                        · exfalso
                          obtain ⟨y1, y2, y3, y4⟩ := z
                          exact x2 ⟨y1, y2, fun j hj => (s3_18 j (by omega)).trans (y3 j hj), by rw [s3_18 y1 y2]; exact y4⟩
                        · exact Or.inr z
                    · refine okf d4 (stay ⟨d0, Or.inl (Or.inr ⟨d2.symm, ?_⟩)⟩)
                      rw [teq, b1, q2] at d4
                      omega
                · refine okf d2 (stay ⟨d0, Or.inl (Or.inl ?_)⟩)
                  rw [teq, eo, q1] at d2
                  omega
      · refine okt f1 (ok2 (okt rfl (okz (okt rfl (okz (ok0 (okt rfl ?_)))))))
        exact tail_m (N := N) (by omega) hlenI l2 (fun _ => same s1 K1 s19 (fun h => absurd h hg)) (fun h => absurd rfl h)
