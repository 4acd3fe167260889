/-! ===== pure: hill ===== -/
/-- a walk over the numbers k, k + 1, .. -/
def gFold {A : Type} (f : Nat → A → A) : Nat → Nat → A → A
  | 0, _, a => a
  | n + 1, k, a => gFold f n (k + 1) (f k a)
theorem gFold_succ {A : Type} {f : Nat → A → A} {n k : Nat} {a : A} : gFold f (n + 1) k a = gFold f n (k + 1) (f k a) := rfl
theorem gFold_skip {A : Type} {f : Nat → A → A} {a : A} : ∀ (n m k : Nat), (∀ j, k ≤ j → j < k + n → f j a = a) → gFold f (n + m) k a = gFold f m (k + n) a := by
  intro n
  induction n with
  | zero => intro m k h; rw [Nat.zero_add]; rfl
  | succ n ih =>
    intro m k h
    rw [show n + 1 + m = n + m + 1 by omega, gFold_succ, h k (by omega) (by omega), ih m (k + 1) (fun j h1 h2 => h j (by omega) (by omega))]
    congr 1
    omega
theorem gFold_all {A : Type} {f : Nat → A → A} {P : A → Prop} (h : ∀ k a, P a → P (f k a)) : ∀ (n k : Nat) (a : A), P a → P (gFold f n k a) := by
  intro n
  induction n with
  | zero => intro k a h; exact h
  | succ n ih => intro k a ha; exact ih _ _ (h k a ha)
theorem sa_sa {σ : gSt} {r : Nat} {f g : Nat → Int32} : g_sa (g_sa σ r f) r g = g_sa σ r g := by
  refine Prod.ext (funext fun j => ?_) rfl
  show (if j = r then _ else (if j = r then _ else _)) = (if j = r then _ else _)
  split <;> rfl
theorem sa_id {σ : gSt} {r : Nat} : g_sa σ r (σ.1 r) = σ := by
  refine Prod.ext (funext fun j => ?_) rfl
  show (if j = r then _ else _) = _
  split
  · rename_i h; rw [h]
  · rfl
theorem pa_sa {σ : gSt} {r : Nat} {f : Nat → Int32} {i x : Int32} : g_pa (g_sa σ r f) r i x = g_sa σ r (upd f i.toInt.toNat x) := by
  show g_sa (g_sa σ r f) r (upd ((g_sa σ r f).1 r) i.toInt.toNat x) = _
  rw [sa_sa, sa_1, if_pos rfl]
theorem ga_sa {σ : gSt} {r : Nat} {f : Nat → Int32} {i : Int32} : g_ga (g_sa σ r f) r i = f i.toInt.toNat := by
  rw [ga_eq, sa_1, if_pos rfl]
theorem div12 {v : Int32} (h : 0 ≤ v.toInt) : (v / 12).toInt = v.toInt / 12 := by
  rw [tdiv' h (by rw [tl12]; omega), tl12]
theorem mod12 {v : Int32} (h : 0 ≤ v.toInt) : (v - v / 12 * 12).toInt = v.toInt % 12 := by
  have hr := tR v
  have e : (v / 12 * 12).toInt = v.toInt / 12 * 12 := by rw [tmul (by rw [div12 h, tl12]; omega), div12 h, tl12]
  rw [tsub (by rw [e]; omega), e]
  omega
/-- what the hill's top gives a cell -/
def hillV (x y top fall : Int32) (k : Nat) : Int32 := top - fall * jmax (jabs (Int32.ofNat (k % 12) - x)) (jabs (Int32.ofNat (k / 12) - y))
def hillF (w h x y top fall : Int32) (k : Nat) (a : Int32 × (Nat → Int32)) : Int32 × (Nat → Int32) :=
  if (((k % 12 : Nat) : Int) < w.toInt ∧ ((k / 12 : Nat) : Int) < h.toInt) ∧ ¬ hillV x y top fall k ≤ a.2 k then (a.1 + 1, upd a.2 k (hillV x y top fall k)) else a
theorem raise_eq {σ τ : gSt} {N : Nat} {x y top fall : Int32} (hR : Rel σ τ) (hN : 13 < N) : f_X8_raiseAround N σ x y top fall = some ((gFold (hillF (τ.2 0) (τ.2 1) x y top fall) 144 0 (0, τ.1 0)).1, g_sa σ 0 (gFold (hillF (τ.2 0) (τ.2 1) x y top fall) 144 0 (0, τ.1 0)).2) := by
  obtain ⟨w1, w2, w3, w4, -⟩ := hR.2.1
  generalize hF : gFold (hillF (τ.2 0) (τ.2 1) x y top fall) 144 0 (0, τ.1 0) = F
  have ew : σ.2 0 = τ.2 0 := hR.1.2.2.1
  have eh : σ.2 1 = τ.2 1 := hR.1.2.2.2.1
  unfold f_X8_raiseAround
  refine gLoop3_eq (fun m c v s => ∃ H, s = g_sa σ 0 H ∧ (0 ≤ v.toInt ∧ v.toInt ≤ (τ.2 1).toInt) ∧ (m : Int) = 12 - v.toInt ∧ gFold (hillF (τ.2 0) (τ.2 1) x y top fall) (144 - 12 * v.toInt.toNat) (12 * v.toInt.toNat) (c, H) = F) ?_ N 12 0 0 σ (by omega) ⟨τ.1 0, by rw [← hR.1.1.1, sa_id], by rw [tl0]; omega, by rw [tl0]; rfl, by rw [tl0]; exact hF⟩
  intro m c v s self ⟨H, hs, hv, hm, hG⟩ ih
  subst hs
  rw [show (g_sa σ 0 H).2 1 = τ.2 1 from eh]
  by_cases c0 : τ.2 1 ≤ v
  · rw [if_pos c0]
    rw [tle] at c0
    have := gFold_skip (f := hillF (τ.2 0) (τ.2 1) x y top fall) (a := (c, H)) (144 - 12 * v.toInt.toNat) 0 (12 * v.toInt.toNat) (fun j h1 h2 => if_neg (fun g => by have := g.1.2; omega))
    rw [Nat.add_zero] at this
    rw [← hG, this]
    rfl
  · rw [if_neg c0]
    rw [tle] at c0
    refine gLoop3_eq (fun m c v7 s => ∃ H, s = g_sa σ 0 H ∧ (0 ≤ v7.toInt ∧ v7.toInt ≤ (τ.2 0).toInt) ∧ (m : Int) = 12 - v7.toInt ∧ gFold (hillF (τ.2 0) (τ.2 1) x y top fall) (144 - (12 * v.toInt.toNat + v7.toInt.toNat)) (12 * v.toInt.toNat + v7.toInt.toNat) (c, H) = F) ?_ N 12 c 0 (g_sa σ 0 H) (by omega) ⟨H, rfl, by rw [tl0]; omega, by rw [tl0]; rfl, by rw [tl0]; exact hG⟩
    clear hG
    intro m7 c v7 s self7 ⟨H, hs, hv7, hm7, hG⟩ ih7
    subst hs
    rw [show (g_sa σ 0 H).2 0 = τ.2 0 from ew]
    by_cases c1 : τ.2 0 ≤ v7
    · rw [if_pos c1]
      rw [tle] at c1
      have e1 := inc1 (v := v) (n := 12) (by omega) (by omega)
      refine ih (m - 1) c (v + 1) _ (by omega) ⟨H, rfl, by rw [e1]; omega, by rw [e1]; omega, ?_⟩
      rw [e1, ← hG]
      have := gFold_skip (f := hillF (τ.2 0) (τ.2 1) x y top fall) (a := (c, H)) (12 - v7.toInt.toNat) (144 - 12 * (v.toInt + 1).toNat) (12 * v.toInt.toNat + v7.toInt.toNat) (fun j h1 h2 => if_neg (fun g => by have := g.1.1; omega))
      rw [show 12 - v7.toInt.toNat + (144 - 12 * (v.toInt + 1).toNat) = 144 - (12 * v.toInt.toNat + v7.toInt.toNat) by omega, show 12 * v.toInt.toNat + v7.toInt.toNat + (12 - v7.toInt.toNat) = 12 * (v.toInt + 1).toNat by omega] at this
      exact this.symm
    · rw [if_neg c1]
      rw [tle] at c1
      have e7 := inc1 (v := v7) (n := 12) (by omega) (by omega)
      have hn := num_in hR.2.1 (x := v7) (y := v) ⟨⟨hv7.1, by omega⟩, hv.1, by omega⟩
      have eK : 12 * v.toInt.toNat + v7.toInt.toNat = (12 * v + v7).toInt.toNat := by rw [hn.1]; omega
      have eV : top - fall * jmax (jabs (v7 - x)) (jabs (v - y)) = hillV x y top fall (12 * v.toInt.toNat + v7.toInt.toNat) := by
        unfold hillV
        rw [← ofN_eq (x := v7) (n := (12 * v.toInt.toNat + v7.toInt.toNat) % 12) (by omega), ← ofN_eq (x := v) (n := (12 * v.toInt.toNat + v7.toInt.toNat) / 12) (by omega)]
      rw [num_eq, eV, gget_ga (by omega) (by rw [len144.1]; omega), ga_sa, ← eK]
      rw [show 144 - (12 * v.toInt.toNat + v7.toInt.toNat) = 143 - (12 * v.toInt.toNat + v7.toInt.toNat) + 1 by omega, gFold_succ] at hG
      simp only [gJoin2]
      by_cases c2 : hillV x y top fall (12 * v.toInt.toNat + v7.toInt.toNat) ≤ H (12 * v.toInt.toNat + v7.toInt.toNat)
      · rw [if_pos c2]
        rw [show hillF (τ.2 0) (τ.2 1) x y top fall (12 * v.toInt.toNat + v7.toInt.toNat) (c, H) = (c, H) from if_neg (fun g => g.2 c2)] at hG
        refine ih7 (m7 - 1) c (v7 + 1) _ (by omega) ⟨H, rfl, by rw [e7]; omega, by rw [e7]; omega, ?_⟩
        rw [e7, ← hG]
        congr 1 <;> omega
      · rw [if_neg c2]
        rw [show hillF (τ.2 0) (τ.2 1) x y top fall (12 * v.toInt.toNat + v7.toInt.toNat) (c, H) = (c + 1, upd H (12 * v.toInt.toNat + v7.toInt.toNat) (hillV x y top fall (12 * v.toInt.toNat + v7.toInt.toNat))) from if_pos ⟨by omega, c2⟩] at hG
        refine ih7 (m7 - 1) (c + 1) (v7 + 1) _ (by omega) ⟨upd H (12 * v.toInt.toNat + v7.toInt.toNat) (hillV x y top fall (12 * v.toInt.toNat + v7.toInt.toNat)), ?_, by rw [e7]; omega, by rw [e7]; omega, ?_⟩
        · rw [gput_pa (by omega) (by rw [len144.1]; omega), pa_sa, ← eK]
        · rw [e7, ← hG]
          congr 1 <;> omega
theorem apart_eq {a x : Int32} (ha : 0 ≤ a.toInt ∧ a.toInt < 12) (hx : 0 ≤ x.toInt ∧ x.toInt < 12) : f_X10_apart a x = jabs (a - x) := by
  unfold f_X10_apart
  have e : (a - x).toInt = a.toInt - x.toInt := tsub (by omega)
  rw [teq, tabs (by rw [e]; omega), e]
  split
  · rename_i h
    rw [tle] at h
    rw [e]
    omega
  · rename_i h
    rw [tle] at h
    rw [tsub (by omega)]
    omega
theorem amax {a b : Int32} : (if a ≤ b then b else a) = jmax a b := by
  rw [teq, tmax]
  split <;> rename_i h <;> rw [tle] at h <;> omega
theorem hill_m {τ : gSt} {N : Nat} {x y top fall : Int32} (hT : InvT τ) (hN : 144 < N) (hm : onMap τ x y) (ht : 0 ≤ top.toInt ∧ top.toInt ≤ 255) (hf : 1 ≤ fall.toInt ∧ fall.toInt ≤ 255) : f_X10_hill N τ x y top fall = some ((gFold (hillF (τ.2 0) (τ.2 1) x y top fall) 144 0 (0, τ.1 0)).1, g_sa (g_sf τ 6 0) 0 (gFold (hillF (τ.2 0) (τ.2 1) x y top fall) 144 0 (0, τ.1 0)).2) := by
  have hT2 := hT
  obtain ⟨w1, w2, w3, w4, -⟩ := hT
  have hm1 := hm.1
  have hm2 := hm.2
  generalize hF : gFold (hillF (τ.2 0) (τ.2 1) x y top fall) 144 0 (0, τ.1 0) = F
  unfold f_X10_hill
  simp only [gJoin0, gJoin1, gJoin2]
  rw [cell_yes hT2 hm, in_yes (by rw [tl0]; exact ht.1) (by rw [tl255]; exact ht.2), in_yes (by rw [tl1]; exact hf.1) (by rw [tl255]; exact hf.2), if_neg one_ne, if_neg one_ne, asked2_2 one_ne one_ne, if_neg (show ¬ ((1 : Int32), g_sf τ 6 0).1 = 0 from one_ne)]
  refine gLoop3_eq (fun m c v s => ∃ H, s = g_sa (g_sf τ 6 0) 0 H ∧ (0 ≤ v.toInt ∧ v.toInt ≤ 144) ∧ (m : Int) = 144 - v.toInt ∧ gFold (hillF (τ.2 0) (τ.2 1) x y top fall) (144 - v.toInt.toNat) v.toInt.toNat (c, H) = F) ?_ N 144 0 0 _ hN ⟨τ.1 0, (sa_id (σ := g_sf τ 6 0) (r := 0)).symm, by rw [tl0]; omega, by rw [tl0]; rfl, by rw [tl0]; exact hF⟩
  intro m c v s self ⟨H, hs, hv, hm3, hG⟩ ih
  subst hs
  by_cases c0 : 144 ≤ v
  · rw [if_pos c0]
    rw [tle, tl144] at c0
    rw [show 144 - v.toInt.toNat = 0 by omega] at hG
    rw [← hG]
    rfl
  · rw [if_neg c0]
    rw [tle, tl144] at c0
    have ed := div12 hv.1
    have em := mod12 hv.1
    have e1 := inc1 (v := v) (n := 144) (by omega) (by omega)
    have hT3 : InvT (g_sa (g_sf τ 6 0) 0 (τ.1 0)) := by rw [show g_sa (g_sf τ 6 0) 0 (τ.1 0) = g_sf τ 6 0 from sa_id]; exact hT2
    have eV : (top - fall * (if f_X10_apart (v - v / 12 * 12) x ≤ f_X10_apart (v / 12) y then f_X10_apart (v / 12) y else f_X10_apart (v - v / 12 * 12) x)) = hillV x y top fall v.toInt.toNat := by
      rw [apart_eq (by rw [em]; omega) (by omega), apart_eq (by rw [ed]; omega) (by omega), amax]
      unfold hillV
      rw [← ofN_eq (x := v - v / 12 * 12) (n := v.toInt.toNat % 12) (by rw [em]; omega), ← ofN_eq (x := v / 12) (n := v.toInt.toNat / 12) (by rw [ed]; omega)]
    rw [show 144 - v.toInt.toNat = 143 - v.toInt.toNat + 1 by omega, gFold_succ] at hG
    have go : ∀ c' H', hillF (τ.2 0) (τ.2 1) x y top fall v.toInt.toNat (c, H) = (c', H') → self c' (v + 1) (g_sa (g_sf τ 6 0) 0 H') = some (F.1, g_sa (g_sf τ 6 0) 0 F.2) := fun c' H' hq => ih (m - 1) c' (v + 1) _ (by omega) ⟨H', rfl, by rw [e1]; omega, by rw [e1]; omega, by
      rw [hq] at hG
      rw [e1, ← hG]
      congr 1 <;> omega⟩
    have cellq : f_X10_isCell (g_sa (g_sf τ 6 0) 0 H) (v - v / 12 * 12) (v / 12) = f_X10_isCell τ (v - v / 12 * 12) (v / 12) := rfl
    have gv : ¬ (v < 0 ∨ 144 ≤ v.toNatClampNeg) := by rw [tlt, tl0, tcl]; omega
    rw [cellq]
    have body : ∀ w0, w0 = (if f_X10_apart (v - v / 12 * 12) x ≤ f_X10_apart (v / 12) y then f_X10_apart (v / 12) y else f_X10_apart (v - v / 12 * 12) x) → (if f_X10_isCell τ (v - v / 12 * 12) (v / 12) = 0 then self c (v + 1) (g_sa (g_sf τ 6 0) 0 H) else if v < 0 ∨ 144 ≤ v.toNatClampNeg then none else if top - fall * w0 ≤ g_ga (g_sa (g_sf τ 6 0) 0 H) 0 v then self c (v + 1) (g_sa (g_sf τ 6 0) 0 H) else if v < 0 ∨ 144 ≤ v.toNatClampNeg then none else self (c + 1) (v + 1) (g_pa (g_sa (g_sf τ 6 0) 0 H) 0 v (top - fall * w0))) = some (F.1, g_sa (g_sf τ 6 0) 0 F.2) := by
      intro w0 hw
      rw [← hw] at eV
      rw [eV]
      by_cases hc : onMap τ (v - v / 12 * 12) (v / 12)
      · rw [cell_yes hT2 hc, if_neg one_ne, if_neg gv, if_neg gv, ga_sa, pa_sa]
        have hc1 := hc.1
        have hc2 := hc.2
        rw [em] at hc1
        rw [ed] at hc2
        by_cases c2 : hillV x y top fall v.toInt.toNat ≤ H v.toInt.toNat
        · rw [if_pos c2]
          exact go c H (if_neg (fun g => g.2 c2))
        · rw [if_neg c2]
          exact go _ _ (if_pos ⟨by omega, c2⟩)
      · rw [cell_no hT2 hc, if_pos rfl]
        refine go c H (if_neg (fun g => hc ?_))
        have g1 := g.1
        unfold onMap
        rw [em, ed]
        omega
    by_cases ca : f_X10_apart (v - v / 12 * 12) x ≤ f_X10_apart (v / 12) y
    · rw [if_pos ca]
      exact body _ (if_pos ca).symm
    · rw [if_neg ca]
      exact body _ (if_neg ca).symm
theorem hillV_le {x y top fall : Int32} {k : Nat} (hk : k < 144) (hx : 0 ≤ x.toInt ∧ x.toInt < 12) (hy : 0 ≤ y.toInt ∧ y.toInt < 12) (ht : 0 ≤ top.toInt ∧ top.toInt ≤ 255) (hf : 1 ≤ fall.toInt ∧ fall.toInt ≤ 255) : (hillV x y top fall k).toInt ≤ 255 := by
  unfold hillV
  have e1 : (Int32.ofNat (k % 12) - x).toInt = ((k % 12 : Nat) : Int) - x.toInt := by rw [tsub (by rw [tnat (by omega)]; omega), tnat (by omega)]
  have e2 : (Int32.ofNat (k / 12) - y).toInt = ((k / 12 : Nat) : Int) - y.toInt := by rw [tsub (by rw [tnat (by omega)]; omega), tnat (by omega)]
  have hb : 0 ≤ (jmax (jabs (Int32.ofNat (k % 12) - x)) (jabs (Int32.ofNat (k / 12) - y))).toInt ∧ (jmax (jabs (Int32.ofNat (k % 12) - x)) (jabs (Int32.ofNat (k / 12) - y))).toInt ≤ 12 := by
    rw [tmax, tabs (by rw [e1]; omega), tabs (by rw [e2]; omega), e1, e2]
    omega
  generalize jmax (jabs (Int32.ofNat (k % 12) - x)) (jabs (Int32.ofNat (k / 12) - y)) = d at hb ⊢
  have m1 : 0 ≤ fall.toInt * d.toInt := Int.mul_nonneg (by omega) hb.1
  have m2 : fall.toInt * d.toInt ≤ 255 * 12 := Int.mul_le_mul hf.2 hb.2 hb.1 (by omega)
  have e3 : (fall * d).toInt = fall.toInt * d.toInt := tmul (by omega)
  rw [tsub (by rw [e3]; omega), e3]
  omega
theorem owe_hill {N : Nat} (hN : 144 < N) : Owe_hill N := by
  intro σ τ x y top fall hR
  have hT := hR.2.1
  unfold f_X9_hill
  by_cases hm : onMap τ x y
  · rw [needCell_yes hR.1 hm, if_pos rfl]
    have no2 : ¬ ((0 ≤ top.toInt ∧ top.toInt ≤ 255) ∧ (1 ≤ fall.toInt ∧ fall.toInt ≤ 255)) → f_X10_hill N τ x y top fall = some (0, g_sf τ 6 2) := by
      intro h
      unfold f_X10_hill
      simp only [gJoin0, gJoin1, gJoin2]
      rw [cell_yes hT hm, asked2_1 one_ne]
      by_cases ht : 0 ≤ top.toInt ∧ top.toInt ≤ 255
      · rw [in_yes (x := top) (by rw [tl0]; exact ht.1) (by rw [tl255]; exact ht.2), if_neg one_ne, in_no (x := fall) (by rw [tl1, tl255]; omega), if_pos rfl, if_pos rfl]
      · rw [in_no (x := top) (by rw [tl0, tl255]; omega), if_pos rfl, if_pos rfl]
    by_cases ht : 0 ≤ top.toInt ∧ top.toInt ≤ 255
    · rw [need_yes (x := top) (by rw [tl0]; exact ht.1) (by rw [tl255]; exact ht.2), if_pos rfl]
      by_cases hf : 1 ≤ fall.toInt ∧ fall.toInt ≤ 255
      · rw [need_yes (x := fall) (by rw [tl1]; exact hf.1) (by rw [tl255]; exact hf.2), if_pos rfl, raise_eq hR (by omega), hill_m hT hN hm ht hf, Option.bind_some]
        refine Agr.yes ((Rel.six (x := 0) hR).h ?_) (Or.inl rfl) rfl rfl
        have hm1 := hm.1
        have hm2 := hm.2
        obtain ⟨w1, w2, w3, w4, hh, -⟩ := hT
        refine gFold_all (P := fun a : Int32 × (Nat → Int32) => ∀ k, 0 ≤ (a.2 k).toInt ∧ (a.2 k).toInt ≤ 255) ?_ 144 0 (0, τ.1 0) hh
        intro k a ha
        unfold hillF
        split
        · rename_i g
          have g1 := g.1
          have g2 := g.2
          rw [tle] at g2
          have hk := ha k
          have hV := hillV_le (x := x) (y := y) (top := top) (fall := fall) (k := k) (by omega) (by omega) (by omega) ht hf
          exact upd_all (P := fun v => 0 ≤ v.toInt ∧ v.toInt ≤ 255) ha (by omega)
        · exact ha
      · rw [need_no (x := fall) (by rw [tl1, tl255]; omega), if_neg (by decide), no2 (fun h => hf h.2)]
        exact Agr.no hR (by decide) (Or.inr (Or.inr rfl)) rfl
    · rw [need_no (x := top) (by rw [tl0, tl255]; omega), if_neg (by decide), no2 (fun h => ht h.1)]
      exact Agr.no hR (by decide) (Or.inr (Or.inr rfl)) rfl
  · have e : f_X10_hill N τ x y top fall = some (0, g_sf τ 6 1) := by
      unfold f_X10_hill
      simp only [gJoin0, gJoin1, gJoin2]
      rw [cell_no hT hm, asked2_0, asked2_0]
      simp only [if_true, ite_self]
    rw [needCell_no hR.1 hm, if_neg onen, e]
    exact Agr.no hR (by decide) (Or.inr (Or.inl rfl)) rfl
