/-! ===== pure: the class measures its lines ===== -/
def border (τ : gSt) (i : Nat) : Prop := (i < 144 ∧ (i / 12 = 0 ∨ ((i / 12 : Nat) : Int) + 1 = (τ.2 1).toInt)) ∨ (144 ≤ i ∧ ((i - 144) % 12 = 0 ∨ (((i - 144) % 12 : Nat) : Int) + 1 = (τ.2 0).toInt))
def MZ (σ τ : gSt) (lv : Int32) (f : Nat → Nat) (H : Nat → Int32) (D : Nat → Prop) (s : gSt) : Prop := CB σ lv s ∧ s.1 2 = H ∧ ∀ r, r < 288 → s.1 3 r = Int32.ofNat (cnt (fun i => gapP τ lv i ∧ D i ∧ f i = r) 288) ∧ s.1 4 r = Int32.ofNat (cnt (fun i => gapP τ lv i ∧ D i ∧ f i = r ∧ border τ i) 288)
theorem MZ.congr {σ τ s : gSt} {lv : Int32} {f : Nat → Nat} {H : Nat → Int32} {D D' : Nat → Prop} (h : MZ σ τ lv f H D s) (hD : ∀ k, gapP τ lv k → (D k ↔ D' k)) : MZ σ τ lv f H D' s := by
  refine ⟨h.1, h.2.1, fun r hr => ?_⟩
  obtain ⟨h1, h2⟩ := h.2.2 r hr
  rw [h1, h2]
  refine ⟨congrArg Int32.ofNat (cnt_congr 288 (fun i _ => ⟨fun g => ⟨g.1, (hD i g.1).mp g.2.1, g.2.2⟩, fun g => ⟨g.1, (hD i g.1).mpr g.2.1, g.2.2⟩⟩)), congrArg Int32.ofNat (cnt_congr 288 (fun i _ => ⟨fun g => ⟨g.1, (hD i g.1).mp g.2.1, g.2.2⟩, fun g => ⟨g.1, (hD i g.1).mpr g.2.1, g.2.2⟩⟩))⟩
theorem ofn_one {n : Nat} (h : n ≤ 288) : Int32.ofNat n + 1 = Int32.ofNat (n + 1) := by
  rw [teq, tadd (by rw [tnat (by omega), tl1]; omega), tnat (by omega), tnat (by omega), tl1]
  rfl
theorem ofn_zero {n : Nat} : Int32.ofNat n + 0 = Int32.ofNat n := Int32.add_zero _
theorem measure_c {σ τ s : gSt} {N : Nat} {lv v x2 : Int32} {L : Nat → Nat} {H : Nat → Int32} {D : Nat → Prop} {a d : Nat} (hN : 288 < N) (hL : CL τ lv L H) (hF : Forest (gapP τ lv) L d) (hd : d ≤ 288) (hS : MZ σ τ lv (walk L d) H D s) (hv : v.toInt = a) (ha : a < 288) (hD : ¬ D a) (hb : gapP τ lv a → (x2 = 0 ↔ ¬ border τ a)) : Ok (MZ σ τ lv (walk L d) H (fun i => D i ∨ i = a)) (f_X0_measureGap N s v x2) := by
  obtain ⟨h1, h2, h3⟩ := hS
  have hLs : CL τ lv L (s.1 2) := by rw [h2]; exact hL
  unfold f_X0_measureGap
  by_cases hg : gapP τ lv a
  · have lr := gapP_lt (walk_G hF.1 d a hg)
    have lead : ∀ t : gSt, t.1 2 = H → f_X0_leaderOf N t v = some (Int32.ofNat (walk L d a)) := fun t ht => leader_eq hN (by rw [ht]; exact hL) hF hd hv hg
    have hb := hb hg
    refine okf (gap_yes hLs hF hv hg) (okb (lead s h2) ?_)
    have e1 : ginc s 3 (Int32.ofNat (walk L d a)) 1 = g_sa s 3 (upd (s.1 3) (walk L d a) (s.1 3 (walk L d a) + 1)) := by
      unfold ginc
      rw [gput_in (by rw [tnat (by omega)]; omega) (by rw [len288.2.1, tnat (by omega)]; omega), gget_in (by rw [tnat (by omega)]; omega) (by rw [len288.2.1, tnat (by omega)]; omega), tnat (by omega)]
      rfl
    rw [e1]
    refine okb (lead _ (by rw [sa_1, if_neg (by decide)]; exact h2)) (okj ?_)
    have fin : ∀ z, z = cif (border τ a) 1 0 → Ok (MZ σ τ lv (walk L d) H (fun i => D i ∨ i = a)) (some (ginc (g_sa s 3 (upd (s.1 3) (walk L d a) (s.1 3 (walk L d a) + 1))) 4 (Int32.ofNat (walk L d a)) z)) := by
      intro z hz
      refine Ok.some ?_
      have e2 : ginc (g_sa s 3 (upd (s.1 3) (walk L d a) (s.1 3 (walk L d a) + 1))) 4 (Int32.ofNat (walk L d a)) z = g_sa (g_sa s 3 (upd (s.1 3) (walk L d a) (s.1 3 (walk L d a) + 1))) 4 (upd (s.1 4) (walk L d a) (s.1 4 (walk L d a) + z)) := by
        unfold ginc
        rw [gput_in (by rw [tnat (by omega)]; omega) (by rw [len288.2.2, tnat (by omega)]; omega), gget_in (by rw [tnat (by omega)]; omega) (by rw [len288.2.2, tnat (by omega)]; omega), tnat (by omega)]
        rfl
      rw [e2]
      refine ⟨(h1.sa (by unfold ck; decide)).sa (by unfold ck; decide), by rw [sa_1, if_neg (by decide), sa_1, if_neg (by decide)]; exact h2, fun r hr => ?_⟩
      rw [sa_1, if_neg (by decide), sa_1, if_pos rfl, sa_1, if_pos rfl, upd_at, upd_at]
      obtain ⟨q1, q2⟩ := h3 r hr
      by_cases e : r = walk L d a
      · subst e
        rw [if_pos rfl, if_pos rfl, q1, q2, hz]
        have c1 := cnt_add (p := fun i => gapP τ lv i ∧ D i ∧ walk L d i = walk L d a) (q := fun i => gapP τ lv i ∧ (D i ∨ i = a) ∧ walk L d i = walk L d a) (r := a) (fun g => hD g.2.1) (fun k => ⟨fun g => g.2.1.elim (fun g1 => Or.inl ⟨g.1, g1, g.2.2⟩) Or.inr, fun g => g.elim (fun g => ⟨g.1, Or.inl g.2.1, g.2.2⟩) (fun g => by rw [g]; exact ⟨hg, Or.inr rfl, rfl⟩)⟩) 288
        rw [if_pos ha] at c1
        rw [c1, ofn_one (cnt_le 288)]
        refine ⟨rfl, ?_⟩
        by_cases hq : border τ a
        · have c2 := cnt_add (p := fun i => gapP τ lv i ∧ D i ∧ walk L d i = walk L d a ∧ border τ i) (q := fun i => gapP τ lv i ∧ (D i ∨ i = a) ∧ walk L d i = walk L d a ∧ border τ i) (r := a) (fun g => hD g.2.1) (fun k => ⟨fun g => g.2.1.elim (fun g1 => Or.inl ⟨g.1, g1, g.2.2⟩) Or.inr, fun g => g.elim (fun g => ⟨g.1, Or.inl g.2.1, g.2.2⟩) (fun g => by rw [g]; exact ⟨hg, Or.inr rfl, rfl, hq⟩)⟩) 288
          rw [if_pos ha] at c2
          rw [c2, cif_pos hq, ofn_one (cnt_le 288)]
        · rw [cif_neg hq, ofn_zero]
          exact congrArg Int32.ofNat (cnt_congr 288 (fun i _ => ⟨fun g => ⟨g.1, Or.inl g.2.1, g.2.2⟩, fun g => ⟨g.1, g.2.1.elim id (fun e => absurd (e ▸ g.2.2.2) hq), g.2.2⟩⟩))
      · rw [if_neg e, if_neg e, q1, q2]
        refine ⟨congrArg Int32.ofNat (cnt_congr 288 (fun i _ => ⟨fun g => ⟨g.1, Or.inl g.2.1, g.2.2⟩, fun g => ⟨g.1, g.2.1.elim id (fun ei => absurd (by rw [← g.2.2, ei]) e), g.2.2⟩⟩)), congrArg Int32.ofNat (cnt_congr 288 (fun i _ => ⟨fun g => ⟨g.1, Or.inl g.2.1, g.2.2⟩, fun g => ⟨g.1, g.2.1.elim id (fun ei => absurd (by rw [← g.2.2.1, ei]) e), g.2.2⟩⟩))⟩
    by_cases c : x2 = 0
    · exact okt c (fin 0 (cif_neg (hb.mp c)).symm)
    · exact okf c (fin 1 (cif_pos (Classical.byContradiction (fun g => c (hb.mpr g)))).symm)
  · refine okt (gap_no hLs hv ha hg) (Ok.some (MZ.congr ⟨h1, h2, h3⟩ (fun k hk => ⟨Or.inl, fun g => g.elim id (fun e => absurd (e ▸ hk) hg)⟩)))
theorem lines_c {σ τ s0 : gSt} {N : Nat} {lv : Int32} {L : Nat → Nat} {H : Nat → Int32} {d : Nat} (hR : Rel σ τ) (hN : 288 < N) (hL : CL τ lv L H) (hF : Forest (gapP τ lv) L d) (hd : d ≤ 288) (h0 : MZ σ τ lv (walk L d) H (fun _ => False) s0) : Ok (MZ σ τ lv (walk L d) H (fun _ => True)) (f_X0_measureLines N s0) := by
  obtain ⟨w1, w2, w3, w4, -⟩ := hR.2.1
  unfold f_X0_measureLines
  refine gLoop2_ok (fun m y s => (0 ≤ y.toInt ∧ y.toInt ≤ (τ.2 1).toInt) ∧ (m : Int) = 12 - y.toInt ∧ MZ σ τ lv (walk L d) H (fun k => ((k % 144 : Nat) : Int) < 12 * y.toInt) s) ?_ N 12 0 s0 (by omega) ⟨by rw [tl0]; omega, by rw [tl0]; rfl, h0.congr (fun k _ => ⟨False.elim, fun h => by rw [tl0] at h; omega⟩)⟩
  intro m y s self ⟨hy, hm, hG⟩ ih
  have er : f_X8_rows s = τ.2 1 := hG.1.v hR
  rw [er]
  by_cases c0 : τ.2 1 ≤ y
  · rw [tle] at c0
    refine okt (by rw [tle]; exact c0) (Ok.some (hG.congr (fun k hk => ⟨fun _ => trivial, fun _ => ?_⟩)))
    rcases hk with h | h <;> omega
  refine okf c0 (okj ?_)
  rw [tle] at c0
  have ey := inc1 (v := y) (n := 12) (by omega) (by omega)
  have eh : (τ.2 1 - 1).toInt = (τ.2 1).toInt - 1 := by rw [tsub (by rw [tl1]; omega), tl1]
  have row : ∀ z : Int32, (z = 0 ↔ ¬ (y.toInt = 0 ∨ y.toInt + 1 = (τ.2 1).toInt)) → Ok (MZ σ τ lv (walk L d) H (fun _ => True)) (gLoop2 (fun (self38 : Int32 → gSt → Option gSt) v3_38 s_38 =>
            if f_X8_columns s_38 ≤ v3_38 then
              self (y + 1) s_38
            else
              (f_X0_measureGap N s_38 (f_X0_gapToTheRight v3_38 y) z).bind (fun (s_56 : gSt) =>
              gJoin1 (fun (w0_87 : Int32) =>
                  (f_X0_measureGap N s_56 (f_X0_gapBelow v3_38 y) w0_87).bind (fun (s_87 : gSt) =>
                  self38 (v3_38 + 1) s_87)) (fun j87 =>
              gJoin0 (
                  j87 1) (fun j82 =>
                if v3_38 = 0 then
                  j82
                else
                  if v3_38 = (f_X8_columns s_56) - 1 then
                    j82
                  else
                    j87 0)))) N 0 s) := by
    intro z hz
    refine gLoop2_ok (fun m x s => (0 ≤ x.toInt ∧ x.toInt ≤ (τ.2 0).toInt) ∧ (m : Int) = 12 - x.toInt ∧ MZ σ τ lv (walk L d) H (fun k => ((k % 144 : Nat) : Int) < 12 * y.toInt + x.toInt) s) ?_ N 12 0 s (by omega) ⟨by rw [tl0]; omega, by rw [tl0]; rfl, hG.congr (fun k _ => by rw [tl0]; omega)⟩
    clear hG er
    intro m2 x s self2 ⟨hx, hm2, hG⟩ ih2
    have ec : f_X8_columns s = τ.2 0 := hG.1.w hR
    rw [ec]
    by_cases c1 : τ.2 0 ≤ x
    · refine okt c1 ?_
      rw [tle] at c1
      refine ih (m - 1) (y + 1) s (by omega) ⟨by rw [ey]; omega, by rw [ey]; omega, hG.congr (fun k hk => ?_)⟩
      rw [ey]
      rcases hk with h | h <;> omega
    refine okf c1 ?_
    rw [tle] at c1
    have ex := inc1 (v := x) (n := 12) (by omega) (by omega)
    have nA := num12 (x := x) (y := y) (by omega) (by omega) (by omega) (by omega)
    generalize hk : 12 * y.toInt.toNat + x.toInt.toNat = k at *
    have nB : (f_X0_gapBelow x y).toInt = (144 + k : Nat) := by
      unfold f_X0_gapBelow
      rw [tadd (by rw [nA, tl144]; omega), nA, tl144]
      omega
    refine (measure_c hN hL hF hd hG (v := f_X0_gapToTheRight x y) (a := k) (by unfold f_X0_gapToTheRight; omega) (by omega) (by omega) (fun _ => hz.trans (not_congr ?_))).bind (fun s2 h2 => ?_)
    · unfold border
      omega
    · have below : ∀ q : Int32, (q = 0 ↔ ¬ (x.toInt = 0 ∨ x.toInt + 1 = (τ.2 0).toInt)) → Ok (MZ σ τ lv (walk L d) H (fun _ => True)) ((f_X0_measureGap N s2 (f_X0_gapBelow x y) q).bind (fun (s_87 : gSt) => self2 (x + 1) s_87)) := by
        intro q hq
        refine (measure_c hN hL hF hd h2 nB (by omega) (by omega) (fun _ => hq.trans (not_congr ?_))).bind (fun s3 h3 => ?_)
        · unfold border
          omega
        · refine ih2 (m2 - 1) (x + 1) s3 (by omega) ⟨by rw [ex]; omega, by rw [ex]; omega, h3.congr (fun j hj => by rw [ex]; have := gapP_lt hj; omega)⟩
      have ec2 : f_X8_columns s2 = τ.2 0 := h2.1.w hR
      have ew : (τ.2 0 - 1).toInt = (τ.2 0).toInt - 1 := by rw [tsub (by rw [tl1]; omega), tl1]
      refine okj ?_
      show Ok _ (if x = 0 then _ else if x = f_X8_columns s2 - 1 then _ else _)
      rw [ec2]
      by_cases b1 : x = 0
      · refine okt b1 (below 1 ⟨fun h => absurd h one_ne, fun h => absurd (Or.inl (by rw [b1, tl0])) h⟩)
      refine okf b1 ?_
      by_cases b2 : x = τ.2 0 - 1
      · refine okt b2 (below 1 ⟨fun h => absurd h one_ne, fun h => absurd (Or.inr (by rw [b2, ew]; omega)) h⟩)
      · refine okf b2 (below 0 ⟨fun _ => ?_, fun _ => rfl⟩)
        rw [teq, tl0] at b1
        rw [teq, ew] at b2
        omega
  show Ok _ (if y = 0 then _ else if y = τ.2 1 - 1 then _ else _)
  by_cases b1 : y = 0
  · refine okt b1 (row 1 ⟨fun h => absurd h one_ne, fun h => absurd (Or.inl (by rw [b1, tl0])) h⟩)
  refine okf b1 ?_
  by_cases b2 : y = τ.2 1 - 1
  · refine okt b2 (row 1 ⟨fun h => absurd h one_ne, fun h => absurd (Or.inr (by rw [b2, eh]; omega)) h⟩)
  · refine okf b2 (row 0 ⟨fun _ => ?_, fun _ => rfl⟩)
    rw [teq, tl0] at b1
    rw [teq, eh] at b2
    omega
