/-! ===== pure: the class reorders ===== -/
/-- the best row of all orders -/
def isB (N : Nat) (τ : gSt) (w : Int32) (c L : Nat) (b : Nat → Int32) : Prop := RA (L - 2) b (oC τ c) ∧ vl N τ b L ∧ ∀ o, RA (L - 2) o (oC τ c) → vl N τ o L → leR N τ w L b o
def noB (N : Nat) (τ : gSt) (c L : Nat) : Prop := ∀ o, RA (L - 2) o (oC τ c) → ¬ vl N τ o L
theorem vl_eq {N L : Nat} {τ : gSt} {o p : Nat → Int32} (h : eqR L o p) : vl N τ o L ↔ vl N τ p L := by
  unfold vl
  rw [(rows_eq h).1]
theorem eqR.symm {L : Nat} {o p : Nat → Int32} (h : eqR L o p) : eqR L p o := fun j hj => (h j hj).symm
theorem eqR.trans {L : Nat} {o p q : Nat → Int32} (h : eqR L o p) (g : eqR L p q) : eqR L o q := fun j hj => (h j hj).trans (g j hj)
theorem leR.right {N L : Nat} {τ : gSt} {w : Int32} {b o p : Nat → Int32} (h : leR N τ w L b o) (e : eqR L o p) : leR N τ w L b p := by
  have e1 := of_eq (N := N) (τ := τ) (w := w) e
  have e2 := (rows_eq (N := N) (τ := τ) e).1
  unfold leR btR sqR at *
  rw [← e1, ← e2]
  rcases h with h | ⟨h1, h2⟩
  · exact Or.inl h
  · exact Or.inr ⟨h1, h2.elim (fun g => Or.inl (g.eq e)) (fun g => Or.inr (g.trans e))⟩
/-- the best so far, of the orders below n -/
def BSC (N : Nat) (τ : gSt) (w : Int32) (L : Nat) (rows : Nat → Nat → Int32) (n : Nat) (u : gSt) : Prop := (u.2 7 = -1 ∧ ∀ i, i < n → ¬ vl N τ (rows i) L) ∨ (vl N τ (u.1 15) L ∧ u.2 7 = rC N τ (u.1 15) L ∧ (u.2 6).toInt = ofF N τ w (u.1 15) L ∧ (∃ i, i < n ∧ eqR L (u.1 15) (rows i)) ∧ ∀ i, i < n → vl N τ (rows i) L → leR N τ w L (u.1 15) (rows i))
def RB (c L : Nat) (b : Nat → Int32) (σ s : gSt) : Prop := (∀ r, ck r → r ≠ 10 → s.1 r = σ.1 r) ∧ (∀ k, cf k → s.2 k = σ.2 k) ∧ (∀ j, j < L → s.1 10 (6 * c + j) = b j) ∧ ∀ j, j < 6 * c ∨ 6 * c + L ≤ j → s.1 10 j = σ.1 10 j
theorem nT_in : ∀ m, m < 5 → 1 ≤ nT m ∧ nT m ≤ 24 := by decide
/-- the class changes the rows of the orders alone -/
def Kj (s s' : gSt) : Prop := (∀ r, r ≠ 14 → r ≠ 15 → s'.1 r = s.1 r) ∧ ∀ k, k ≠ 6 → k ≠ 7 → s'.2 k = s.2 k
theorem Kj.kc {s s' : gSt} (h : Kj s s') : Kc s s' := ⟨fun r hr => h.1 r (fun e => by rw [e] at hr; revert hr; unfold ck; decide) (fun e => by rw [e] at hr; revert hr; unfold ck; decide), fun k hk => h.2 k (fun e => by rw [e] at hk; revert hk; unfold cf; decide) (fun e => by rw [e] at hk; revert hk; unfold cf; decide)⟩
theorem lay_c {s : gSt} {N c L : Nat} {x1 : Int32} (hN : 200 < N) (hx : x1.toInt = c) (hc : c < 5) (hL : L ≤ 6) (h5 : (s.2 5).toInt = L) (h7 : s.2 7 ≠ -1) : Ok (fun (u : gSt) => (∀ r, r ≠ 10 → u.1 r = s.1 r) ∧ (∀ k, u.2 k = s.2 k) ∧ (∀ j, j < L → u.1 10 (6 * c + j) = s.1 15 j) ∧ ∀ j, j < 6 * c ∨ 6 * c + L ≤ j → u.1 10 j = s.1 10 j) (gLoop2 (fun (self65 : Int32 → gSt → Option gSt) (v4_65 : Int32) (s_65 : gSt) =>
              if s_65.2 5 ≤ v4_65 then
                some s_65
              else
                if s_65.2 7 = (-1) then
                  some s_65
                else
                  self65 (v4_65 + 1) (f_X2_replaceControl s_65 x1 v4_65 (gget s_65 15 v4_65))) N 0 s) := by
  have e6 : (x1 * 6).toInt = 6 * c := by rw [tmul (by rw [tl6]; omega), tl6, hx]; omega
  refine gLoop2_ok (fun m (v : Int32) (u : gSt) => ∃ k : Nat, v.toInt = k ∧ k ≤ L ∧ (m : Int) = 6 - k ∧ (∀ r, r ≠ 10 → u.1 r = s.1 r) ∧ (∀ k, u.2 k = s.2 k) ∧ (∀ j, j < k → u.1 10 (6 * c + j) = s.1 15 j) ∧ ∀ j, j < 6 * c ∨ 6 * c + L ≤ j → u.1 10 j = s.1 10 j) ?_ N 6 0 s (by omega) ⟨0, rfl, by omega, by omega, fun _ _ => rfl, fun _ => rfl, fun j hj => by omega, fun _ _ => rfl⟩
  intro m v u self ⟨k, hv, hk, hm, k1, k2, k3, k4⟩ ih
  by_cases c1 : u.2 5 ≤ v
  · refine okt c1 (Ok.some ⟨k1, k2, fun j hj => k3 j ?_, k4⟩)
    rw [tle, k2 5, h5, hv] at c1
    omega
  · refine okf c1 (okf (by rw [k2 7]; exact h7) ?_)
    rw [tle, k2 5, h5, hv] at c1
    have e1 := inc1 (v := v) (n := 6) (by omega) (by omega)
    have ep : (x1 * 6 + v).toInt = 6 * c + k := by rw [tadd (by rw [e6]; omega), e6, hv]
    have g15 : gget u 15 v = s.1 15 k := by rw [gget_in (by omega) (by rw [len14.2.1]; omega), hv, k1 15 (by decide)]; rfl
    have er : f_X2_replaceControl u x1 v (s.1 15 k) = g_sa u 10 (upd (u.1 10) (6 * c + k) (s.1 15 k)) := by
      unfold f_X2_replaceControl
      rw [gput_in (by omega) (by rw [len30.1]; omega), ep]
      rfl
    rw [g15, er]
    refine ih (m - 1) (v + 1) _ (by omega) ⟨k + 1, by omega, by omega, by omega, fun r hr => by rw [sa_1, if_neg hr]; exact k1 r hr, k2, fun j hj => ?_, fun j hj => ?_⟩
    · rw [sa_1, if_pos rfl, upd_at]
      by_cases e : j = k
      · rw [if_pos (by omega), e]
      · rw [if_neg (by omega)]
        exact k3 j (by omega)
    · rw [sa_1, if_pos rfl, upd_at, if_neg (by omega)]
      exact k4 j hj
theorem reorder_c {σ τ : gSt} {N c : Nat} {x1 w : Int32} (hR : Rel σ τ) (hN : 1000000000000000000000 < N) (hx : x1.toInt = c) (hc : c < 5) (hw : 0 ≤ w.toInt ∧ w.toInt ≤ 9999) : Ok (fun (s : gSt) => (Kc σ s ∧ (ln τ c < 2 ∨ noB N τ c (ln τ c))) ∨ (2 ≤ ln τ c ∧ ∃ b, isB N τ w c (ln τ c) b ∧ RB c (ln τ c) b σ s)) (f_X4_reorder N σ x1 w) := by
  have hI := hR.2
  obtain ⟨l1, l2, l3⟩ := crs_in hI hc
  unfold f_X4_reorder
  refine (take_c (N := N) hR (by omega) hx hc).bind (fun s1 hs1 => ?_)
  obtain ⟨⟨t1, t2⟩, t5, t14⟩ := hs1
  have K1 : Kc σ s1 := ⟨fun r hr => t1 r (fun e => by rw [e] at hr; revert hr; unfold ck; decide), fun k hk => t2 k (fun e => by rw [e] at hk; revert hk; unfold cf; decide)⟩
  by_cases cL : ln τ c < 2
  · have es : f_X4_sortBetweenEnds N s1 = some s1 := by
      unfold f_X4_sortBetweenEnds
      obtain ⟨N', rfl⟩ : ∃ N', N = N' + 1 := ⟨N - 1, by omega⟩
      refine if_pos ?_
      rw [tle, tsub (by rw [t5, tl2]; omega), t5, tl2, tl1]
      omega
    refine okb es ?_
    refine (legs_at (o := oC τ c) (hR.keep K1 Km.rf) hN t5 l2 (fun j hj => ⟨t14 j hj, l3 j hj⟩)).bind (fun s2 hs2 => ?_)
    obtain ⟨K2, -⟩ := hs2
    have f5 : ((g_sf s2 7 (-1)).2 5).toInt = ln τ c := by rw [sf_2, if_neg (by decide), K2.2 5 (by decide)]; exact t5
    refine okz (okt (by rw [tlt, f5, tl2]; omega) ?_)
    refine gLoop3_ok (fun m (v3 v4 : Int32) (u : gSt) => v3 = 0 ∧ v4 = 0 ∧ u = g_sf s2 7 (-1)) ?_ N 0 0 0 _ (by omega) ⟨rfl, rfl, rfl⟩
    intro m v3 v4 u self ⟨h3, h4, hu⟩ ih
    refine ok0 (okf (by rw [h4]; decide) (okt h3 ?_))
    rw [hu]
    refine gLoop2_ok (fun m (v : Int32) (u : gSt) => u = g_sf s2 7 (-1)) ?_ N 0 0 _ (by omega) rfl
    intro m v u self2 hu ih2
    have fin : Ok (fun (s : gSt) => (Kc σ s ∧ (ln τ c < 2 ∨ noB N τ c (ln τ c))) ∨ (2 ≤ ln τ c ∧ ∃ b, isB N τ w c (ln τ c) b ∧ RB c (ln τ c) b σ s)) (some u) := Ok.some (Or.inl ⟨by rw [hu]; exact (K1.trans K2.kc).sf (by unfold cf; decide), Or.inl cL⟩)
    by_cases c1 : u.2 5 ≤ v
    · exact okt c1 fin
    · exact okf c1 (okt (by rw [hu, sf_2, if_pos rfl]) fin)
  · obtain ⟨m, hm⟩ : ∃ m, ln τ c = m + 2 := ⟨ln τ c - 2, by omega⟩
    rw [hm] at t5 t14 l2 l3 ⊢
    have m5 : m < 5 := by omega
    have hd : ∀ i j, i < j → j < m + 2 → oC τ c i ≠ oC τ c j := fun i j h1 h2 => hI.2.2.1.2.2 c i j hc h1 (by omega)
    have A1 : RA m (s1.1 14) (oC τ c) := (RA.rf hd).congr (fun j hj => t14 j hj)
    refine (sort_c (N := N) (by omega) (by rw [t5]; rfl) m5 A1).bind (fun s2 hs2 => ?_)
    obtain ⟨K2, A2, S2⟩ := hs2
    have K2c : Kc s1 s2 := ⟨fun r hr => K2.1 r (fun e => by rw [e] at hr; revert hr; unfold ck; decide), fun k _ => K2.2 k⟩
    have u5 : (s2.2 5).toInt = (m + 2 : Nat) := by rw [K2.2 5]; exact t5
    generalize hA : s2.1 14 = A at A2 S2
    have isA : ∀ o, RA m o (oC τ c) → ∀ j, j < m + 2 → isC τ (o j) := fun o ho j hj => by
      obtain ⟨b1, b2, b3, b4, b5⟩ := ho
      match j, hj with
      | 0, _ => rw [b1]; exact l3 0 (by omega)
      | j + 1, hj =>
        by_cases e : j < m
        · obtain ⟨i, i1, i2⟩ := b3 j e
          rw [i2]
          exact l3 (i + 1) (by omega)
        · rw [show j = m by omega, b2]
          exact l3 (m + 1) (by omega)
    refine (legs_at (o := A) (hR.keep (K1.trans K2c) Km.rf) hN u5 l2 (fun j hj => ⟨by rw [hA], isA A A2 j hj⟩)).bind (fun s3 hs3 => ?_)
    obtain ⟨K3, T3⟩ := hs3
    have f5 : ((g_sf s3 7 (-1)).2 5).toInt = (m + 2 : Nat) := by rw [sf_2, if_neg (by decide), K3.2 5 (by decide)]; exact u5
    have a14 : (g_sf s3 7 (-1)).1 14 = A := by rw [sf_1, K3.1 14 (by decide)]; exact hA
    have K3c : Kc σ (g_sf s3 7 (-1)) := ((K1.trans K2c).trans K3.kc).sf (by unfold cf; decide)
    have T3' : ∀ i j, i < m + 2 → j < m + 2 → TB N τ (A i) (A j) (g_sf s3 7 (-1)) := T3
    have z7 : (g_sf s3 7 (-1)).2 7 = -1 := by rw [sf_2, if_pos rfl]
    generalize g_sf s3 7 (-1) = s4 at f5 a14 K3c T3' z7
    have nTm := nT_in m m5
    have ordA : ∀ t, t < nT m → ∀ j, j < m + 2 → ∃ i, i < m + 2 ∧ ordR m A t j = A i := fun t ht j hj => by
      have hin := pT_in m m5 t ht
      match j, hj with
      | 0, _ => exact ⟨0, by omega, ordR_0⟩
      | j + 1, hj =>
        by_cases e : j < m
        · exact ⟨_, by have := hin j e; omega, ordR_mid e⟩
        · exact ⟨m + 1, by omega, by rw [show j = m by omega]; exact ordR_last⟩
    refine okz (okf (by rw [tlt, f5, tl2]; omega) ?_)
    refine gLoop3_ok (fun n (v3 v4 : Int32) (u : gSt) => ∃ t : Nat, v4.toInt = t ∧ (n : Int) = 24 - t ∧ Kj s4 u ∧ BSC N τ w (m + 2) (ordR m A) t u ∧ ((v3 = 1 ∧ t < nT m ∧ eqR (m + 2) (u.1 14) (ordR m A t)) ∨ (v3 = 0 ∧ t = nT m))) ?_ N 24 1 0 s4 (by omega) ⟨0, rfl, by omega, ⟨fun _ _ _ => rfl, fun _ _ _ => rfl⟩, Or.inl ⟨z7, fun i hi => by omega⟩, Or.inl ⟨rfl, by omega, fun j hj => by
      rw [a14]
      match j, hj with
      | 0, _ => exact ordR_0.symm
      | j + 1, hj =>
        by_cases e : j < m
        · rw [ordR_mid e, pT_0 m m5 j e]
        · rw [show j = m by omega, ordR_last]⟩⟩
    intro n v3 v4 u self ⟨t, h4, hn, hK, hB, hF⟩ ih
    have q5 : (u.2 5).toInt = (m + 2 : Nat) := by rw [hK.2 5 (by decide) (by decide)]; exact f5
    have done : t = nT m → Ok (fun (s : gSt) => (Kc σ s ∧ (m + 2 < 2 ∨ noB N τ c (m + 2))) ∨ (2 ≤ m + 2 ∧ ∃ b, isB N τ w c (m + 2) b ∧ RB c (m + 2) b σ s)) (gLoop2 (fun (self65 : Int32 → gSt → Option gSt) (v4_65 : Int32) (s_65 : gSt) =>
              if s_65.2 5 ≤ v4_65 then
                some s_65
              else
                if s_65.2 7 = (-1) then
                  some s_65
                else
                  self65 (v4_65 + 1) (f_X2_replaceControl s_65 x1 v4_65 (gget s_65 15 v4_65))) N 0 u) := by
      intro ht
      rw [ht] at hB
      rcases hB with ⟨h7, hno⟩ | ⟨b1, b2, b3, ⟨i, i1, i2⟩, b5⟩
      · refine gLoop2_ok (fun m (v : Int32) (u' : gSt) => u' = u) ?_ N 0 0 _ (by omega) rfl
        intro m' v u' self2 hu ih2
        have fin : Ok (fun (s : gSt) => (Kc σ s ∧ (m + 2 < 2 ∨ noB N τ c (m + 2))) ∨ (2 ≤ m + 2 ∧ ∃ b, isB N τ w c (m + 2) b ∧ RB c (m + 2) b σ s)) (some u') := Ok.some (Or.inl ⟨by rw [hu]; exact K3c.trans hK.kc, Or.inr (fun o ho hv => by
          obtain ⟨t', t1, t2⟩ := ho.cover m5 A2
          exact hno t' t1 ((vl_eq t2).mp hv))⟩)
        by_cases c1 : u'.2 5 ≤ v
        · exact okt c1 fin
        · exact okf c1 (okt (by rw [hu]; exact h7) fin)
      · refine (lay_c (N := N) (by omega) hx hc l2 q5 (by rw [b2]; exact b1)).mono (fun s' hs' => ?_)
        obtain ⟨e1, e2, e3, e4⟩ := hs'
        have Ku := K3c.trans hK.kc
        have hRA : RA m (u.1 15) (oC τ c) := (ordR_RA A2 m5 i1).congr i2
        refine Or.inr ⟨by omega, u.1 15, ⟨hRA, b1, fun o ho hv => ?_⟩, fun r hr h10 => (e1 r h10).trans (Ku.1 r hr), fun k hk => (e2 k).trans (Ku.2 k hk), e3, fun j hj => (e4 j hj).trans (congrFun (Ku.1 10 (by unfold ck; decide)) j)⟩
        obtain ⟨t', t1, t2⟩ := ho.cover m5 A2
        exact (b5 t' t1 ((vl_eq t2).mp hv)).right t2.symm
    refine ok0 ?_
    rcases hF with ⟨hv3, ht, h14⟩ | ⟨hv3, ht⟩
    · refine okf (by rw [tle, h4, tl24]; omega) (okf (by rw [hv3]; exact one_ne) ?_)
      have e4 := inc1 (v := v4) (n := 24) (by omega) (by omega)
      have hRo := ordR_RA A2 m5 ht
      refine (judge_c (o := ordR m A t) (w := w) hI hN q5 l2 (by omega) hw (fun j hj => ⟨h14 j hj, isA _ hRo j hj⟩) (fun i j hi hj => by
        obtain ⟨i', i1, i2⟩ := ordA t ht i hi
        obtain ⟨j', j1, j2⟩ := ordA t ht j hj
        rw [i2, j2]
        have := T3' i' j' i1 j1
        unfold TB at this ⊢
        rw [hK.1 12 (by decide) (by decide), hK.1 13 (by decide) (by decide)]
        exact this)).bind (fun s5 hs5 => ?_)
      have key : Kj s4 s5 ∧ BSC N τ w (m + 2) (ordR m A) (t + 1) s5 ∧ s5.1 14 = u.1 14 := by
        have old : ∀ i, i < t + 1 → i = t ∨ i < t := fun i hi => by omega
        rcases hs5 with ⟨h1, h2⟩ | ⟨h1, ⟨h2, f, f1, g1, g2, g3, g4, g5⟩ | ⟨h2, h3⟩⟩
        · subst h2
          refine ⟨hK, ?_, rfl⟩
          rcases hB with ⟨h7, hno⟩ | ⟨b1, b2, b3, ⟨i, i1, i2⟩, b5⟩
          · exact Or.inl ⟨h7, fun i hi => (old i hi).elim (fun e => by rw [e]; exact h1) (hno i)⟩
          · exact Or.inr ⟨b1, b2, b3, ⟨i, by omega, i2⟩, fun i hi hv => (old i hi).elim (fun e => absurd (e ▸ hv) h1) (fun e => b5 i e hv)⟩
        · have h15 : eqR (m + 2) (s5.1 15) (ordR m A t) := fun j hj => (g5 j hj).trans (h14 j hj)
          have r1 := (rows_eq (N := N) (τ := τ) h15).1
          have r2 := of_eq (N := N) (τ := τ) (w := w) h15
          refine ⟨⟨fun r a b => (g4 r b).trans (hK.1 r a b), fun k a b => (g3 k a b).trans (hK.2 k a b)⟩, Or.inr ⟨(vl_eq h15).mpr h1, by rw [g2, r1], by rw [g1, f1, r2], ⟨t, by omega, h15⟩, fun i hi hv => ?_⟩, g4 14 (by decide)⟩
          rcases old i hi with e | e
          · rw [e]
            exact Or.inr ⟨⟨r2, by rw [r1]⟩, Or.inr h15⟩
          · rcases hB with ⟨h7, hno⟩ | ⟨b1, b2, b3, b4, b5⟩
            · exact absurd hv (hno i e)
            · have hbt : btR N τ w (m + 2) (s5.1 15) (u.1 15) := by
                unfold btR
                rw [r1, r2, ← b3, ← b2]
                rcases h2 with h2 | h2 | h2
                · exact absurd (b2.symm.trans h2) b1
                · exact Or.inl h2
                · exact Or.inr h2
              exact hbt.le (b5 i e hv)
        · subst h3
          refine ⟨hK, ?_, rfl⟩
          rcases hB with ⟨h7, hno⟩ | ⟨b1, b2, b3, ⟨i, i1, i2⟩, b5⟩
          · exact absurd (Or.inl h7) h2
          · refine Or.inr ⟨b1, b2, b3, ⟨i, by omega, i2⟩, fun k hk hv => ?_⟩
            rcases old k hk with e | e
            · rw [e]
              have hlt := (ordR_lt S2 m5 ht i1)
              have hlt2 : ltR (m + 2) (s5.1 15) (ordR m A t) := by
                obtain ⟨x, x1, x2, x3⟩ := hlt
                exact ⟨x, x1, fun j hj => (i2 j (by omega)).trans (x2 j hj), by rw [i2 x x1]; exact x3⟩
              rw [b3, b2] at h2
              unfold leR btR sqR
              by_cases z1 : ofF N τ w (s5.1 15) (m + 2) < ofF N τ w (ordR m A t) (m + 2)
              · exact Or.inl (Or.inl z1)
              · have z2 : ofF N τ w (s5.1 15) (m + 2) = ofF N τ w (ordR m A t) (m + 2) := by
                  rcases Int.lt_trichotomy (ofF N τ w (ordR m A t) (m + 2)) (ofF N τ w (s5.1 15) (m + 2)) with q | q | q
                  · exact absurd (Or.inr (Or.inl q)) h2
                  · exact q.symm
                  · exact absurd q z1
                by_cases z3 : (rC N τ (s5.1 15) (m + 2)).toInt < (rC N τ (ordR m A t) (m + 2)).toInt
                · exact Or.inl (Or.inr ⟨z2, z3⟩)
                · refine Or.inr ⟨⟨z2, ?_⟩, Or.inl hlt2⟩
                  rcases Int.lt_trichotomy (rC N τ (ordR m A t) (m + 2)).toInt (rC N τ (s5.1 15) (m + 2)).toInt with q | q | q
                  · exact absurd (Or.inr (Or.inr ⟨z2.symm, q⟩)) h2
                  · exact q.symm
                  · exact absurd q z3
            · exact b5 k e hv
      obtain ⟨K5, B5, e14⟩ := key
      have p5 : (s5.2 5).toInt = m + 2 := by rw [K5.2 5 (by decide) (by decide), f5]; rfl
      refine (next_o (N := N) (by omega) p5 m5 S2 ht (by rw [e14]; exact h14)).bind (fun q hq => ?_)
      have Bq : ∀ x, Kq s5 x → BSC N τ w (m + 2) (ordR m A) (t + 1) x := fun x hx => by
        unfold BSC at B5 ⊢
        rw [hx.1 15 (by decide), hx.2 6, hx.2 7]
        exact B5
      rcases hq with ⟨y1, y2, y3, y4⟩ | ⟨y1, y2, y3⟩
      · exact ih (n - 1) q.1 (v4 + 1) q.2 (by omega) ⟨t + 1, by omega, by omega, ⟨fun r a b => (y3.1 r a).trans (K5.1 r a b), fun k a b => (y3.2 k).trans (K5.2 k a b)⟩, Bq _ y3, Or.inl ⟨y2, y1, y4⟩⟩
      · rw [y3, y2]
        exact ih (n - 1) 0 (v4 + 1) s5 (by omega) ⟨t + 1, by omega, by omega, K5, B5, Or.inr ⟨rfl, by omega⟩⟩
    · by_cases c1 : 24 ≤ v4
      · exact okt c1 (done ht)
      · exact okf c1 (okt hv3 (done ht))
