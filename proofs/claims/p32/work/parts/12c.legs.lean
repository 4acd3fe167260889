/-! ===== pure: the class takes a course and measures its legs ===== -/
theorem take_c {s τ : gSt} {N c : Nat} {x1 : Int32} (hR : Rel s τ) (hN : 200 < N) (hx : x1.toInt = c) (hc : c < 5) : Ok (fun (s' : gSt) => ((∀ r, r ≠ 14 → s'.1 r = s.1 r) ∧ ∀ k, k ≠ 5 → s'.2 k = s.2 k) ∧ (s'.2 5).toInt = ln τ c ∧ ∀ j, j < ln τ c → s'.1 14 j = oC τ c j) (f_X4_takeOrder N s x1) := by
  obtain ⟨l1, l2, l3⟩ := crs_in hR.2 hc
  have hk : isK x1 := ⟨by omega, by omega⟩
  have hx5 : x1.toInt.toNat = c := by omega
  unfold f_X4_takeOrder f_X2_length
  rw [clen hR.1 hk, hx5]
  refine gLoop2_ok (fun m (v : Int32) (u : gSt) => ∃ j : Nat, v.toInt = j ∧ j ≤ ln τ c ∧ (m : Int) = 6 - j ∧ ((∀ r, r ≠ 14 → u.1 r = s.1 r) ∧ ∀ k, k ≠ 5 → u.2 k = s.2 k) ∧ (u.2 5).toInt = ln τ c ∧ ∀ i, i < j → u.1 14 i = oC τ c i) ?_ N 6 0 _ (by omega) ⟨0, rfl, by omega, by omega, ⟨fun _ _ => rfl, fun k hk => by rw [sf_2, if_neg hk]⟩, by rw [sf_2, if_pos rfl]; exact l1, fun i hi => by omega⟩
  intro m v u self ⟨j, hv, hj, hm, hF, h5, h14⟩ ih
  by_cases c1 : u.2 5 ≤ v
  · refine okt c1 (Ok.some ⟨hF, h5, fun i hi => h14 i ?_⟩)
    rw [tle, h5, hv] at c1
    omega
  · refine okf c1 ?_
    rw [tle, h5, hv] at c1
    have e1 := inc1 (v := v) (n := 6) (by omega) (by omega)
    have hRu : Rel u τ := hR.keep ⟨fun r hr => hF.1 r (fun e => by rw [e] at hr; revert hr; unfold ck; decide), fun k hk => hF.2 k (fun e => by rw [e] at hk; revert hk; unfold cf; decide)⟩ Km.rf
    have ec : f_X2_controlAt u x1 v = oC τ c j := by
      rw [cat_in hRu hk (by omega) (by rw [hx5]; omega), ga_at (n := 6 * c + j) (by rw [ent_in hk (by omega) (by omega)]; omega)]
      rfl
    rw [ec, gput_in (by omega) (by rw [len14.1]; omega), hv]
    refine ih (m - 1) (v + 1) _ (by omega) ⟨j + 1, by omega, by omega, by omega, ⟨fun r hr => by rw [sa_1, if_neg hr]; exact hF.1 r hr, hF.2⟩, h5, fun i hi => ?_⟩
    rw [sa_1, if_pos rfl, upd_at]
    by_cases e : i = j
    · rw [if_pos (by omega), e]
    · rw [if_neg (by omega)]
      exact h14 i (by omega)
/-- the class changes its searches' rows and those of the legs alone -/
def Kl (s s' : gSt) : Prop := (∀ r, (r < 5 ∨ (7 < r ∧ r < 12) ∨ 13 < r) → s'.1 r = s.1 r) ∧ ∀ k, k ≠ 3 → s'.2 k = s.2 k
theorem Kl.rf {s : gSt} : Kl s s := ⟨fun _ _ => rfl, fun _ _ => rfl⟩
theorem Kl.trans {a b c : gSt} (h : Kl a b) (g : Kl b c) : Kl a c := ⟨fun r hr => (g.1 r hr).trans (h.1 r hr), fun k hk => (g.2 k hk).trans (h.2 k hk)⟩
theorem Kl.sa {s u : gSt} {r : Nat} {f : Nat → Int32} (h : Kl s u) (hr : ¬ (r < 5 ∨ (7 < r ∧ r < 12) ∨ 13 < r)) : Kl s (g_sa u r f) := ⟨fun j hj => by rw [sa_1, if_neg (fun (e : j = r) => hr (e ▸ hj))]; exact h.1 j hj, h.2⟩
theorem Ks.kl {s s' : gSt} (h : Ks s s') : Kl s s' := ⟨fun r hr => h.1 r (by omega), h.2⟩
theorem Kl.kc {s s' : gSt} (h : Kl s s') : Kc s s' := ⟨fun r hr => h.1 r (by unfold ck at hr; omega), fun k hk => h.2 k (by unfold cf at hk; omega)⟩
/-- where a leg's measures stand -/
def ky (x y : Int32) : Nat := x.toInt.toNat * 12 + y.toInt.toNat
def TB (N : Nat) (τ : gSt) (x y : Int32) (s : gSt) : Prop := s.1 12 (ky x y) = dC N τ 0 (cl τ x) (cl τ y) ∧ s.1 13 (ky x y) = dK N τ 0 (cl τ x) (cl τ y)
theorem legs_at {s τ : gSt} {N L : Nat} {o : Nat → Int32} (hR : Rel s τ) (hN : 1000000000000000000000 < N) (h5 : (s.2 5).toInt = L) (hL : L ≤ 6) (ho : ∀ j, j < L → s.1 14 j = o j ∧ isC τ (o j)) : Ok (fun (s' : gSt) => Kl s s' ∧ ∀ i j, i < L → j < L → TB N τ (o i) (o j) s') (f_X4_measureLegs N s) := by
  have hI := hR.2
  have c12 := hI.2.1.2.1
  unfold f_X4_measureLegs
  refine gLoop2_ok (fun m (v : Int32) (u : gSt) => ∃ f : Nat, v.toInt = f ∧ f ≤ L ∧ (m : Int) = 6 - f ∧ Kl s u ∧ ∀ i j, i < f → j < L → TB N τ (o i) (o j) u) ?_ N 6 0 s (by omega) ⟨0, rfl, by omega, by omega, Kl.rf, fun i j hi => by omega⟩
  intro m v u self ⟨f, hv, hf, hm, hK, hT⟩ ih
  have u5 : (u.2 5).toInt = L := by rw [hK.2 5 (by decide)]; exact h5
  by_cases c1 : u.2 5 ≤ v
  · refine okt c1 (Ok.some ⟨hK, fun i j hi hj => hT i j ?_ hj⟩)
    rw [tle, u5, hv] at c1
    omega
  · refine okf c1 ?_
    rw [tle, u5, hv] at c1
    have e1 := inc1 (v := v) (n := 6) (by omega) (by omega)
    have hRu := hR.keep hK.kc Km.rf
    have row : ∀ w, Kl s w → ∀ (y : Int32) (j : Nat), y.toInt = j → j < L → gget w 14 y = o j := fun w hw y j hy hj => by
      rw [get14 hy (by omega), hw.1 14 (by decide)]
      exact (ho j hj).1
    rw [row u hK v f hv (by omega)]
    have iF := (ho f (by omega)).2
    obtain ⟨a1, a2, a3⟩ := cl_in hI iF
    rw [cl_c hRu iF]
    refine (find_c (z := 0) hRu hN a3 a1).bind (fun w hw => ?_)
    obtain ⟨hKw, hval⟩ := hw
    refine gLoop2_ok (fun m2 (v3 : Int32) (w : gSt) => ∃ t : Nat, v3.toInt = t ∧ t ≤ L ∧ (m2 : Int) = 6 - t ∧ Kl s w ∧ (∀ q, q < 144 → w.1 5 q = dC N τ 0 (cl τ (o f)) q ∧ w.1 6 q = dK N τ 0 (cl τ (o f)) q) ∧ ∀ i j, i < L → j < L → (i < f ∨ (i = f ∧ j < t)) → TB N τ (o i) (o j) w) ?_ N 6 0 w (by omega) ⟨0, rfl, by omega, by omega, hK.trans hKw.kl, hval, fun i j hi hj h => by
      rcases h with h | ⟨_, h⟩
      · have := hT i j h hj
        unfold TB at this ⊢
        rw [hKw.1 12 (by decide), hKw.1 13 (by decide)]
        exact this
      · omega⟩
    intro m2 v3 w self2 ⟨t, h3, ht, hm2, hKw, hval, hTw⟩ ih2
    have w5 : (w.2 5).toInt = L := by rw [hKw.2 5 (by decide)]; exact h5
    by_cases c2 : w.2 5 ≤ v3
    · refine okt c2 (ih (m - 1) (v + 1) w (by omega) ⟨f + 1, by omega, by omega, by omega, hKw, fun i j hi hj => ?_⟩)
      rw [tle, w5, h3] at c2
      exact hTw i j (by omega) hj (by
        by_cases e : i = f
        · exact Or.inr ⟨e, by omega⟩
        · exact Or.inl (by omega))
    · refine okf c2 ?_
      rw [tle, w5, h3] at c2
      have e3 := inc1 (v := v3) (n := 6) (by omega) (by omega)
      have hRw := hR.keep hKw.kc Km.rf
      have iT := (ho t (by omega)).2
      obtain ⟨b1, b2, b3⟩ := cl_in hI iT
      have f1 := iF.1
      have f2 := iF.2
      have t1 := iT.1
      have t2 := iT.2
      have ek : (f_X4_legNumber (o f) (o t)).toInt = ky (o f) (o t) := by
        unfold f_X4_legNumber ky
        have q : (o f * 12).toInt = (o f).toInt * 12 := by rw [tmul (by rw [tl12]; omega), tl12]
        rw [tadd (by rw [q]; omega), q]
        omega
      have k144 : ky (o f) (o t) < 144 := by unfold ky; omega
      rw [row w hKw v3 t h3 (by omega), cl_c hRw iT]
      have v1 : f_X6_costTo w (τ.1 2 (o t).toInt.toNat) = dC N τ 0 (cl τ (o f)) (cl τ (o t)) := by
        unfold f_X6_costTo
        rw [gget_in (by omega) (by rw [len144c.1]; omega)]
        exact (hval _ b2).1
      rw [v1, gput_in (r := 12) (by rw [ek]; omega) (by rw [ek, len14.2.2.1]; omega), ek]
      have hR2 : Rel (g_sa w 12 (upd (w.1 12) ((ky (o f) (o t) : Nat) : Int).toNat (dC N τ 0 (cl τ (o f)) (cl τ (o t))))) τ := hR.keep (hKw.sa (by decide)).kc Km.rf
      have v2 : f_X6_climbTo (g_sa w 12 (upd (w.1 12) ((ky (o f) (o t) : Nat) : Int).toNat (dC N τ 0 (cl τ (o f)) (cl τ (o t))))) (τ.1 2 (o t).toInt.toNat) = dK N τ 0 (cl τ (o f)) (cl τ (o t)) := by
        unfold f_X6_climbTo
        rw [gget_in (by omega) (by rw [len144c.2.1]; omega)]
        exact (hval _ b2).2
      rw [cl_c hR2 iT, v2, gput_in (r := 13) (by rw [ek]; omega) (by rw [ek, len14.2.2.2]; omega), ek]
      refine ih2 (m2 - 1) (v3 + 1) _ (by omega) ⟨t + 1, by omega, by omega, by omega, (hKw.sa (by decide)).sa (by decide), hval, fun i j hi hj h => ?_⟩
      show upd (w.1 12) (ky (o f) (o t)) (dC N τ 0 (cl τ (o f)) (cl τ (o t))) (ky (o i) (o j)) = _ ∧ upd (w.1 13) (ky (o f) (o t)) (dK N τ 0 (cl τ (o f)) (cl τ (o t))) (ky (o i) (o j)) = _
      rw [upd_at, upd_at]
      have i1 := (ho i hi).2
      have j1 := (ho j hj).2
      have x1 := i1.1
      have x2 := i1.2
      have y1 := j1.1
      have y2 := j1.2
      by_cases e : ky (o i) (o j) = ky (o f) (o t)
      · rw [if_pos e, if_pos e]
        unfold ky at e
        have e1 : o i = o f := teq.mpr (by omega)
        have e2 : o j = o t := teq.mpr (by omega)
        rw [e1, e2]
        exact ⟨rfl, rfl⟩
      · rw [if_neg e, if_neg e]
        refine hTw i j hi hj ?_
        rcases h with h | ⟨h, h2⟩
        · exact Or.inl h
        · refine Or.inr ⟨h, ?_⟩
          by_cases e2 : j = t
          · exact absurd (by rw [h, e2]) e
          · omega
