/-! ===== pure: the class follows the punches ===== -/
def Kz (s s' : gSt) : Prop := (∀ r, r < 23 ∨ 27 < r → s'.1 r = s.1 r) ∧ ∀ k, s'.2 k = s.2 k
theorem Kz.rf {s : gSt} : Kz s s := ⟨fun _ _ => rfl, fun _ => rfl⟩
theorem Kz.trans {a b c : gSt} (h : Kz a b) (g : Kz b c) : Kz a c := ⟨fun r hr => (g.1 r hr).trans (h.1 r hr), fun k => (g.2 k).trans (h.2 k)⟩
theorem Kz.sa {s u : gSt} {r : Nat} {f : Nat → Int32} (h : Kz s u) (hr : ¬ (r < 23 ∨ 27 < r)) : Kz s (g_sa u r f) := ⟨fun j hj => by rw [sa_1, if_neg (fun (e : j = r) => hr (e ▸ hj))]; exact h.1 j hj, h.2⟩
theorem Kz.kc {s s' : gSt} (h : Kz s s') : Kc s s' := ⟨fun r hr => h.1 r (by unfold ck at hr; omega), fun k _ => h.2 k⟩
theorem Rel.kz {s s' τ : gSt} (hR : Rel s τ) (h : Kz s s') : Rel s' τ := hR.keep h.kc Km.rf
theorem len5 : gLen 23 = 144 ∧ gLen 24 = 144 ∧ gLen 25 = 24 ∧ gLen 26 = 24 ∧ gLen 27 = 24 := ⟨rfl, rfl, rfl, rfl, rfl⟩
/-- the class's numbers of a runner -/
theorem klass_c {s τ : gSt} {x : Int32} {i : Nat} (hR : Rel s τ) (hx : x.toInt = i) (hi : i < 24) : f_X3_klassOf s x = cor τ 6 i := by
  unfold f_X3_klassOf
  rw [gget_in (by omega) (by rw [len30.2.2.2.2.1]; omega), hR.1.1.2.2.2.2.2.2.1, cor_at (by decide)]
  rw [hx]
  rfl
theorem isK_c {A : Nat → Nat → Int32} {i : Nat} (hA : RF A i) : isK (A 6 i) := ⟨by have := hA.1; omega, by have := hA.1; have := hA.2.1; omega⟩
theorem len_c {s τ : gSt} {i : Nat} (hR : Rel s τ) (hA : RF (cor τ) i) : (gget s 11 (cor τ 6 i)).toInt = lL (cor τ) i := by
  rw [clen hR.1 (isK_c hA), hA.1]
  have := hA.2.2.1
  rw [cor_at (by decide)] at this
  exact this
theorem cat_c {s τ : gSt} {i j : Nat} {v : Int32} (hR : Rel s τ) (hA : RF (cor τ) i) (hv : v.toInt = j) (hj : j < lL (cor τ) i) : f_X2_controlAt s (cor τ 6 i) v = cR (cor τ) i j := by
  have r5 := hA.2.2.2.2.1
  have hK := isK_c hA
  have hl : (τ.1 5 (cor τ 6 i).toInt.toNat).toInt = lL (cor τ) i := by
    have := hA.2.2.1
    rw [hA.1, ← this, cor_at (by decide)]
    rfl
  rw [cat_in hR hK (by omega) (by rw [hl]; omega), ga_at (n := 6 * kL (cor τ) i + j) (by rw [ent_in hK (by omega) (by omega), hA.1, hv]; omega)]
  unfold cR
  rw [cor_at (r := 4) (by decide)]
theorem cat_c_out {s τ : gSt} {i : Nat} {v : Int32} (hR : Rel s τ) (hA : RF (cor τ) i) (h : v.toInt < 0 ∨ (lL (cor τ) i : Int) ≤ v.toInt) : f_X2_controlAt s (cor τ 6 i) v = -1 := by
  have hl : (τ.1 5 (cor τ 6 i).toInt.toNat).toInt = lL (cor τ) i := by
    have := hA.2.2.1
    rw [hA.1, ← this, cor_at (by decide)]
    rfl
  exact cat_out hR.1 (isK_c hA) (by rw [hl]; exact h)
theorem hf_c {s τ : gSt} {i j : Nat} (hR : Rel s τ) (hA : RF (cor τ) i) (hj : j < lL (cor τ) i) : f_X1_hasFailed s (cR (cor τ) i j) = 0 ↔ fR (cor τ) i j = 0 := by
  have c := hA.2.2.2.2.2.1 j hj
  have e : gget s 9 (cR (cor τ) i j) = fR (cor τ) i j := by
    rw [gget_in c.1 (by rw [len30.2.2.2.1]; omega), hR.1.1.2.2.2.1]
    unfold fR
    rw [cor_at (r := 3) (by decide)]
  unfold f_X1_hasFailed
  rw [e]
  rcases hA.2.2.2.2.2.2.2.1 (cR (cor τ) i j).toInt.toNat with h | h
  · have h' : fR (cor τ) i j = 0 := h
    rw [h', if_neg (by decide)]
  · have h' : fR (cor τ) i j = 1 := h
    rw [h', if_pos rfl]
theorem pc_c {s τ : gSt} {x : Int32} {i : Nat} (hR : Rel s τ) (hA : RF (cor τ) i) (hx : x.toInt = i) (hi : i < 24) : (gget s 20 x).toInt = pR (cor τ) i := by
  rw [gget_in (by omega) (by rw [len30.2.2.2.2.2.2.1]; omega), hR.1.1.2.2.2.2.2.2.2.2.1, hx]
  have := hA.2.2.2.2.2.2.2.2.1
  rw [cor_at (by decide)] at this
  exact this
theorem pun_c {s τ : gSt} {x v : Int32} {i k : Nat} (hR : Rel s τ) (hx : x.toInt = i) (hi : i < 24) (hv : v.toInt = k) (hk : k < 20) : f_X3_punchedControl s x v = cor τ 9 (20 * i + k) ∧ f_X3_punchedMinute s x v = cor τ 10 (20 * i + k) := by
  have e20 : (x * 20).toInt = 20 * i := by rw [tmul (by rw [tl20]; omega), tl20, hx]; omega
  have e : (x * 20 + v).toInt = 20 * i + k := by rw [tadd (by rw [e20]; omega), e20, hv]
  unfold f_X3_punchedControl f_X3_punchedMinute
  rw [gget_in (by omega) (by rw [len30.2.2.2.2.2.2.2.1]; omega), gget_in (by omega) (by rw [len30.2.2.2.2.2.2.2.2.1]; omega), hR.1.1.2.2.2.2.2.2.2.2.2.1, hR.1.1.2.2.2.2.2.2.2.2.2.2, e, cor_at (by decide), cor_at (by decide)]
  exact ⟨rfl, rfl⟩
theorem next_c {s τ : gSt} {N i j : Nat} {v : Int32} (hR : Rel s τ) (hN : 30 < N) (hA : RF (cor τ) i) (hv : v.toInt = j) (hj : j < lL (cor τ) i) : Ok (fun (r : Int32) => r.toInt = sk (cor τ) i (j + 1)) (f_X5_nextToCount N s (cor τ 6 i) v) := by
  have r5 := hA.2.2.2.2.1
  have hl := len_c hR hA
  have e0 := inc1 (v := v) (n := 6) (by omega) (by omega)
  unfold f_X5_nextToCount
  refine gLoop1_ok (fun m (w : Int32) => ∃ q : Nat, w.toInt = q ∧ (m : Int) = 6 - q ∧ q ≤ lL (cor τ) i ∧ sk (cor τ) i q = sk (cor τ) i (j + 1)) ?_ N (5 - j) (v + 1) (by omega) ⟨j + 1, by omega, by omega, by omega, rfl⟩
  intro m w self ⟨q, hq, hm, hqL, hs⟩ ih
  show Ok _ (if f_X2_length s (cor τ 6 i) ≤ w then _ else _)
  unfold f_X2_length
  by_cases c : gget s 11 (cor τ 6 i) ≤ w
  · refine okt c (Ok.some ?_)
    rw [tle, hl] at c
    rw [← hs, sk_end (by omega)]
    exact hq
  · refine okf c ?_
    rw [tle, hl] at c
    rw [cat_c hR hA hq (by omega)]
    by_cases c2 : fR (cor τ) i q = 0
    · refine okt ((hf_c hR hA (by omega)).mpr c2) (Ok.some ?_)
      rw [← hs, sk_ok (by omega) c2]
      exact hq
    · refine okf (fun e => c2 ((hf_c hR hA (by omega)).mp e)) ?_
      have e1 := inc1 (v := w) (n := 6) (by omega) (by omega)
      exact ih (m - 1) (w + 1) (by omega) ⟨q + 1, by omega, by omega, by omega, by rw [← sk_go (by omega) c2]; exact hs⟩
/-- what the class keeps of a walk through the punches of the runner i -/
def FC (s : gSt) (i : Nat) (t : Nat × (Nat → Int32) × Nat) (u : gSt) : Prop := Kz s u ∧ (∀ j, j < 6 → u.1 23 (6 * i + j) = t.2.1 j) ∧ (∀ j, j < 6 * i ∨ 6 * i + 6 ≤ j → u.1 23 j = s.1 23 j) ∧ (u.1 25 i).toInt = t.2.2 ∧ (∀ j, j ≠ i → u.1 25 j = s.1 25 j) ∧ u.1 24 = s.1 24 ∧ u.1 26 = s.1 26 ∧ u.1 27 = s.1 27
theorem punched_c {s τ : gSt} {N i : Nat} {x f : Int32} (hR : Rel s τ) (hN : 30 < N) (hA : RF (cor τ) i) (hx : x.toInt = i) (hi : i < 24) (hf : f = cR (cor τ) i (lL (cor τ) i - 1)) : Ok (fun (r : Int32) => (r = 0 ∧ hpF (cor τ) i (pR (cor τ) i) = 0) ∨ (r ≠ 0 ∧ hpF (cor τ) i (pR (cor τ) i) = 2)) (f_X3_hasPunched N s x f) := by
  have hp := pc_c hR hA hx hi
  have r10 := hA.2.2.2.2.2.2.2.2.2.1
  unfold f_X3_hasPunched
  refine gLoop1_ok (fun m (w : Int32) => ∃ q : Nat, w.toInt = q ∧ (m : Int) = 20 - q ∧ q ≤ pR (cor τ) i ∧ hpF (cor τ) i q = 0) ?_ N 20 0 (by omega) ⟨0, rfl, by omega, by omega, rfl⟩
  intro m w self ⟨q, hq, hm, hqL, hs⟩ ih
  by_cases c : gget s 20 x ≤ w
  · refine okt c (Ok.some (Or.inl ⟨rfl, ?_⟩))
    rw [tle, hp] at c
    rw [show pR (cor τ) i = q by omega]
    exact hs
  · refine okf c ?_
    rw [tle, hp] at c
    rw [(pun_c hR hx hi hq (by omega)).1, hf]
    by_cases c2 : cor τ 9 (20 * i + q) = cR (cor τ) i (lL (cor τ) i - 1)
    · refine okt c2 (Ok.some (Or.inr ⟨one_ne, ?_⟩))
      have key : ∀ d, hpF (cor τ) i (q + 1 + d) = 2 := by
        intro d
        induction d with
        | zero => exact if_pos c2
        | succ d ihd =>
          show (if cor τ 9 (20 * i + (q + 1 + d)) = cR (cor τ) i (lL (cor τ) i - 1) then 2 else hpF (cor τ) i (q + 1 + d)) = 2
          by_cases c3 : cor τ 9 (20 * i + (q + 1 + d)) = cR (cor τ) i (lL (cor τ) i - 1)
          · rw [if_pos c3]
          · rw [if_neg c3]; exact ihd
      have := key (pR (cor τ) i - (q + 1))
      rw [show q + 1 + (pR (cor τ) i - (q + 1)) = pR (cor τ) i by omega] at this
      exact this
    · have e1 := inc1 (v := w) (n := 20) (by omega) (by omega)
      exact okf c2 (ih (m - 1) (w + 1) (by omega) ⟨q + 1, by omega, by omega, by omega, (if_neg c2).trans hs⟩)
theorem follow_c {s τ : gSt} {N i : Nat} {x : Int32} (hR : Rel s τ) (hN : 30 < N) (hA : RF (cor τ) i) (hx : x.toInt = i) (hi : (i : Int) < (τ.2 3).toInt) (h23 : ∀ j, j < 6 → s.1 23 (6 * i + j) = -1) (h25 : s.1 25 i = 0) : Ok (fun (u : gSt) => ∃ w, u = g_sa w 26 (upd (w.1 26) i (stF (cor τ) i)) ∧ FC s i (thr (cor τ) i (pR (cor τ) i)) w) (f_X5_followPunches N s x) := by
  have i24 : i < 24 := by have := hR.2.2.2.2.1.2.1; omega
  have TT := TF_thr hA
  have hkl := klass_c hR hx i24
  obtain ⟨r1, r2, r3, r4, r5, r6, r7, r8, r9, r10, r11, r12, r13⟩ := id hA
  have e6 : (x * 6).toInt = 6 * i := by rw [tmul (by rw [tl6]; omega), tl6, hx]; omega
  have hst : f_X3_startMinute s x = cor τ 8 i := by
    unfold f_X3_startMinute
    rw [gget_in (by omega) (by rw [len24]; omega), hx, cor_at (by decide)]
    exact hR.1.2.1 _ (by omega)
  unfold f_X5_followPunches
  rw [hkl, hst]
  have e0 : gput s 23 (x * 6) (cor τ 8 i) = g_sa s 23 (upd (s.1 23) (6 * i) (cor τ 8 i)) := by
    rw [gput_in (by rw [e6]; omega) (by rw [e6, len5.1]; omega), e6]
    rfl
  rw [e0]
  have hz0 : Kz s (g_sa s 23 (upd (s.1 23) (6 * i) (cor τ 8 i))) := Kz.rf.sa (by decide)
  have hF0 : FC s i (thr (cor τ) i 0) (g_sa s 23 (upd (s.1 23) (6 * i) (cor τ 8 i))) := by
    refine ⟨hz0, fun j hj => ?_, fun j hj => ?_, ?_, fun j hj => rfl, rfl, rfl, rfl⟩
    · show _ = upd (fun _ => -1) 0 (cor τ 8 i) j
      rw [sa_1, if_pos rfl, upd_at, upd_at]
      by_cases e : j = 0
      · rw [if_pos e, if_pos (by omega)]
      · rw [if_neg e, if_neg (by omega)]
        exact h23 j hj
    · rw [sa_1, if_pos rfl, upd_at, if_neg (by omega)]
    · rw [sa_1, if_neg (by decide), h25]
      rfl
  refine (next_c (hR.kz hz0) hN hA (j := 0) tl0 (by omega)).bind (fun r31 h31 => ?_)
  refine gLoop3_ok (fun m (v3 v4 : Int32) u => ∃ k : Nat, k ≤ pR (cor τ) i ∧ (m : Int) = 22 - k ∧ v4.toInt = k ∧ v3.toInt = (thr (cor τ) i k).1 ∧ FC s i (thr (cor τ) i k) u) ?_ N 22 r31 0 _ (by omega) ⟨0, by omega, by omega, rfl, h31, hF0⟩
  intro m v3 v4 u self ⟨k, hk, hm, h4, h3, hF⟩ ih
  have hRu := hR.kz hF.1
  have hp := pc_c hRu hA hx i24
  have hl := len_c hRu hA
  obtain ⟨t1, t2, t3, t4, t5, t6, t7, t8⟩ := TT k hk
  show Ok _ (if f_X3_punchCount u x ≤ v4 then _ else _)
  unfold f_X3_punchCount
  by_cases c : gget u 20 x ≤ v4
  · refine okt c (okz ?_)
    rw [tle, hp, h4] at c
    have hkp : k = pR (cor τ) i := by omega
    have hfin : f_X2_finish u (cor τ 6 i) = cR (cor τ) i (lL (cor τ) i - 1) := by
      unfold f_X2_finish
      exact cat_c hRu hA (by rw [tsub (by rw [hl, tl1]; omega), hl, tl1]; omega) (by omega)
    have go : ∀ w : Int32, w = (if lL (cor τ) i ≤ nX (cor τ) i then (1 : Int32) else 0) → Ok (fun (u : gSt) => ∃ w, u = g_sa w 26 (upd (w.1 26) i (stF (cor τ) i)) ∧ FC s i (thr (cor τ) i (pR (cor τ) i)) w) ((f_X3_hasPunched N u x (f_X2_finish u (cor τ 6 i))).bind (fun (r_150 : Int32) =>
          gJoin1 (fun (w0_179 : Int32) =>
              some (gput u 26 x w0_179)) (fun j179 =>
            if w = 0 then
              if r_150 = 0 then
                j179 0
              else
                j179 2
            else
              j179 1))) := by
      intro w hw
      refine (punched_c hRu hN hA hx i24 hfin).bind (fun r hr => okz ?_)
      have fin : ∀ b : Int32, b = stF (cor τ) i → Ok (fun (u : gSt) => ∃ w, u = g_sa w 26 (upd (w.1 26) i (stF (cor τ) i)) ∧ FC s i (thr (cor τ) i (pR (cor τ) i)) w) (some (gput u 26 x b)) := fun b hb => Ok.some ⟨u, by rw [gput_in (by omega) (by rw [len5.2.2.2.1]; omega), hx, hb]; rfl, by rw [← hkp]; exact hF⟩
      by_cases cw : lL (cor τ) i ≤ nX (cor τ) i
      · rw [if_pos cw] at hw
        refine okf (by rw [hw]; exact one_ne) (fin 1 ?_)
        unfold stF
        rw [if_pos cw]
      · rw [if_neg cw] at hw
        refine okt hw ?_
        rcases hr with ⟨h1, h2⟩ | ⟨h1, h2⟩
        · refine okt h1 (fin 0 ?_)
          unfold stF
          rw [if_neg cw, h2]
        · refine okf h1 (fin 2 ?_)
          unfold stF
          rw [if_neg cw, h2]
    show Ok _ (if v3 < f_X2_length u (cor τ 6 i) then _ else _)
    unfold f_X2_length
    by_cases c2 : v3 < gget u 11 (cor τ 6 i)
    · refine okt c2 (go 0 ?_)
      rw [tlt, hl, h3] at c2
      rw [if_neg (by unfold nX; rw [← hkp]; omega)]
    · refine okf c2 (go 1 ?_)
      rw [tlt, hl, h3] at c2
      rw [if_pos (by unfold nX; rw [← hkp]; omega)]
  · refine okf c (ok2 ?_)
    rw [tle, hp, h4] at c
    have e4 := inc1 (v := v4) (n := 20) (by omega) (by omega)
    obtain ⟨p1, p2⟩ := pun_c hRu hx i24 h4 (by omega)
    rw [p1, p2]
    have q11 := r11 k (by omega)
    by_cases c3 : (thr (cor τ) i k).1 < lL (cor τ) i
    · rw [cat_c hRu hA h3 c3]
      by_cases c4 : cor τ 9 (20 * i + k) = cR (cor τ) i (thr (cor τ) i k).1
      · refine okt c4 ?_
        have hh := thr_hit (A := cor τ) (i := i) (k := k) c3 c4
        have ep : (x * 6 + v3).toInt = 6 * i + (thr (cor τ) i k).1 := by rw [tadd (by rw [e6]; omega), e6, h3]
        have eu : ginc (gput u 23 (x * 6 + v3) (cor τ 10 (20 * i + k))) 25 x 1 = g_sa (g_sa u 23 (upd (u.1 23) (6 * i + (thr (cor τ) i k).1) (cor τ 10 (20 * i + k)))) 25 (upd (u.1 25) i (u.1 25 i + 1)) := by
          unfold ginc
          rw [gput_in (r := 23) (by rw [ep]; omega) (by rw [ep, len5.1]; omega), ep, gput_in (r := 25) (by omega) (by rw [len5.2.2.1]; omega), gget_in (r := 25) (by omega) (by rw [len5.2.2.1]; omega), hx]
          rfl
        rw [eu]
        have hzu : Kz s (g_sa (g_sa u 23 (upd (u.1 23) (6 * i + (thr (cor τ) i k).1) (cor τ 10 (20 * i + k)))) 25 (upd (u.1 25) i (u.1 25 i + 1))) := (hF.1.sa (by decide)).sa (by decide)
        refine (next_c (hR.kz hzu) hN hA h3 c3).bind (fun r hr => ?_)
        refine ih (m - 1) r (v4 + 1) _ (by omega) ⟨k + 1, by omega, by omega, by omega, by rw [hh]; exact hr, ?_⟩
        rw [hh]
        obtain ⟨f1, f2, f3, f4, f5, f6, f7, f8⟩ := hF
        refine ⟨hzu, fun j hj => ?_, fun j hj => ?_, ?_, fun j hj => ?_, f6, f7, f8⟩
        · show _ = upd (thr (cor τ) i k).2.1 (thr (cor τ) i k).1 (cor τ 10 (20 * i + k)) j
          rw [sa_1, if_neg (by decide), sa_1, if_pos rfl, upd_at, upd_at]
          by_cases e : j = (thr (cor τ) i k).1
          · rw [if_pos e, if_pos (by omega)]
          · rw [if_neg e, if_neg (by omega)]
            exact f2 j hj
        · rw [sa_1, if_neg (by decide), sa_1, if_pos rfl, upd_at, if_neg (by omega)]
          exact f3 j hj
        · rw [sa_1, if_pos rfl, upd_at, if_pos rfl, inc1 (n := 100) (by omega) (by omega), f4]
          rfl
        · rw [sa_1, if_pos rfl, upd_at, if_neg hj]
          exact f5 j hj
      · have hh := thr_miss (A := cor τ) (i := i) (k := k) (fun g => c4 g.2)
        exact okf c4 (ih (m - 1) v3 (v4 + 1) u (by omega) ⟨k + 1, by omega, by omega, by omega, by rw [hh]; exact h3, by rw [hh]; exact hF⟩)
    · rw [cat_c_out hRu hA (Or.inr (by omega))]
      have hh := thr_miss (A := cor τ) (i := i) (k := k) (fun g => c3 g.1)
      exact okf (fun e => by rw [e, tlm1] at q11; omega) (ih (m - 1) v3 (v4 + 1) u (by omega) ⟨k + 1, by omega, by omega, by omega, by rw [hh]; exact h3, by rw [hh]; exact hF⟩)
