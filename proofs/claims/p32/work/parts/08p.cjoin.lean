/-! ===== pure: the class joins gaps ===== -/
def CB (σ : gSt) (lv : Int32) (s : gSt) : Prop := Kc σ s ∧ s.2 2 = lv
theorem CB.sa {σ s : gSt} {lv : Int32} {r : Nat} {f : Nat → Int32} (h : CB σ lv s) (hr : ¬ ck r) : CB σ lv (g_sa s r f) := ⟨h.1.sa hr, h.2⟩
theorem CB.h {σ τ s : gSt} {lv : Int32} (h : CB σ lv s) (hR : Rel σ τ) : s.1 0 = τ.1 0 := (h.1.1 0 (by unfold ck; decide)).trans hR.1.1.1
theorem CB.w {σ τ s : gSt} {lv : Int32} (h : CB σ lv s) (hR : Rel σ τ) : s.2 0 = τ.2 0 := (h.1.2 0 (by unfold cf; decide)).trans hR.1.2.2.1
theorem CB.v {σ τ s : gSt} {lv : Int32} (h : CB σ lv s) (hR : Rel σ τ) : s.2 1 = τ.2 1 := (h.1.2 1 (by unfold cf; decide)).trans hR.1.2.2.2.1
def CL (τ : gSt) (lv : Int32) (L : Nat → Nat) (H : Nat → Int32) : Prop := ∀ k, k < 288 → (gapP τ lv k → H k = Int32.ofNat (L k)) ∧ (¬ gapP τ lv k → H k = -1)
def CX (σ τ : gSt) (lv : Int32) (B3 B4 : Nat → Int32) (d : Nat) (M : Nat → Nat) (s : gSt) : Prop := CB σ lv s ∧ s.1 3 = B3 ∧ s.1 4 = B4 ∧ ∃ L, CL τ lv L (s.1 2) ∧ Forest (gapP τ lv) L d ∧ Kern (gapP τ lv) (walk L d) M
theorem CX.mono {σ τ s : gSt} {lv : Int32} {B3 B4 : Nat → Int32} {d e : Nat} {M : Nat → Nat} (h : CX σ τ lv B3 B4 d M s) (he : d ≤ e) : CX σ τ lv B3 B4 e M s := by
  obtain ⟨h1, h2, h3, L, h4, h5, h6⟩ := h
  have w : ∀ i, gapP τ lv i → walk L e i = walk L d i := fun i hi => walk_more (h5.2 i hi) he
  refine ⟨h1, h2, h3, L, h4, ⟨h5.1, fun i hi => by rw [w i hi]; exact h5.2 i hi⟩, fun i j hi hj => by rw [w i hi, w j hj]; exact h6 i j hi hj⟩
theorem len288 : gLen 2 = 288 ∧ gLen 3 = 288 ∧ gLen 4 = 288 := ⟨rfl, rfl, rfl⟩
theorem gap_yes {τ s : gSt} {lv v : Int32} {L : Nat → Nat} {a d : Nat} (hL : CL τ lv L (s.1 2)) (hF : Forest (gapP τ lv) L d) (hv : v.toInt = a) (ha : gapP τ lv a) : ¬ f_X0_isGap s v = 0 := by
  have h2 := gapP_lt ha
  have h3 := gapP_lt (hF.1 a ha)
  unfold f_X0_isGap
  rw [gget_in (by omega) (by rw [len288.1]; omega), show v.toInt.toNat = a by omega, (hL a h2).1 ha, if_neg (by rw [teq, tnat (by omega), tlm1]; omega)]
  exact one_ne
theorem gap_no {τ s : gSt} {lv v : Int32} {L : Nat → Nat} {a : Nat} (hL : CL τ lv L (s.1 2)) (hv : v.toInt = a) (h2 : a < 288) (ha : ¬ gapP τ lv a) : f_X0_isGap s v = 0 := by
  unfold f_X0_isGap
  rw [gget_in (by omega) (by rw [len288.1]; omega), show v.toInt.toNat = a by omega, (hL a h2).2 ha, if_pos rfl]
theorem leader_eq {τ s : gSt} {N : Nat} {lv v : Int32} {L : Nat → Nat} {a d : Nat} (hN : 288 < N) (hL : CL τ lv L (s.1 2)) (hF : Forest (gapP τ lv) L d) (hd : d ≤ 288) (hv : v.toInt = a) (ha : gapP τ lv a) : f_X0_leaderOf N s v = some (Int32.ofNat (walk L d a)) := by
  have h2 := gapP_lt ha
  unfold f_X0_leaderOf
  refine gLoop2_eq (fun m x (c : Int32) => ∃ n : Nat, c.toInt = (n : Int) ∧ n ≤ 288 ∧ m = 288 - n ∧ x = Int32.ofNat (walk L n a)) ?_ N 288 v 0 hN ⟨0, by rw [tl0]; rfl, by omega, rfl, ofN_eq hv⟩
  intro m x c self ⟨n, hc, hn, hm, hx⟩ ih
  subst hx
  have hG := walk_G hF.1 n a ha
  have hG2 := gapP_lt hG
  by_cases c0 : 288 ≤ c
  · rw [if_pos c0]
    rw [tle, tl288] at c0
    rw [walk_more (e := n) (hF.2 a ha) (by omega)]
  · rw [if_neg c0]
    rw [tle, tl288] at c0
    have e1 := inc1 (v := c) (n := 288) (by omega) (by omega)
    have eg : gget s 2 (Int32.ofNat (walk L n a)) = Int32.ofNat (L (walk L n a)) := by
      rw [gget_in (by rw [tnat (by omega)]; omega) (by rw [len288.1, tnat (by omega)]; omega), tnat (by omega)]
      exact (hL _ hG2).1 hG
    have hG3 := gapP_lt (hF.1 _ hG)
    rw [eg]
    by_cases c1 : Int32.ofNat (L (walk L n a)) = Int32.ofNat (walk L n a)
    · rw [if_pos c1]
      have c1 := (ofn_inj hG3 hG2).mp c1
      by_cases hnd : n ≤ d
      · rw [walk_more (e := d) c1 hnd]
      · rw [walk_more (e := n) (hF.2 a ha) (by omega)]
    · rw [if_neg c1]
      refine ih (m - 1) _ _ (by omega) ⟨n + 1, by rw [e1, hc]; rfl, by omega, by omega, ?_⟩
      rw [walk_add]
      rfl
theorem join_yes {σ τ s : gSt} {N : Nat} {lv x y : Int32} {B3 B4 : Nat → Int32} {M : Nat → Nat} {a b d : Nat} (hN : 288 < N) (hd : d < 288) (hS : CX σ τ lv B3 B4 d M s) (hx : x.toInt = a) (hy : y.toInt = b) (ha : gapP τ lv a) (hb : gapP τ lv b) : Ok (CX σ τ lv B3 B4 (d + 1) (relab M a b)) (f_X0_join N s x y) := by
  obtain ⟨h1, h2, h3, L, h4, h5, h6⟩ := hS
  unfold f_X0_join
  refine okf (gap_yes h4 h5 hx ha) (okf (gap_yes h4 h5 hy hb) (okb (leader_eq hN h4 h5 (by omega) hx ha) (okb (leader_eq hN h4 h5 (by omega) hy hb) (Ok.some ?_))))
  have la := gapP_lt (walk_G h5.1 d a ha)
  have lb := gapP_lt (walk_G h5.1 d b hb)
  obtain ⟨f1, f2⟩ := forest_join h5 ha hb
  rw [gput_pa (by rw [tnat (by omega)]; omega) (by rw [len288.1, tnat (by omega)]; omega)]
  refine ⟨h1.sa (by unfold ck; decide), by rw [pa_1, if_neg (by decide)]; exact h2, by rw [pa_1, if_neg (by decide)]; exact h3, updN L (walk L d a) (walk L d b), fun k hk => ?_, f1, ?_⟩
  · rw [pa_1, if_pos rfl, upd_at, tnat (by omega)]
    unfold updN
    by_cases e : k = walk L d a
    · rw [if_pos (by omega), if_pos e]
      exact ⟨fun _ => rfl, fun hg => absurd (by rw [e]; exact walk_G h5.1 d a ha) hg⟩
    · rw [if_neg (by omega), if_neg e]
      exact h4 k hk
  · exact kern_join h6 ha hb f2 (Or.inl (fun i _ => rfl))
theorem join_no {σ τ s : gSt} {N : Nat} {lv x y : Int32} {B3 B4 : Nat → Int32} {M : Nat → Nat} {a b d : Nat} (hS : CX σ τ lv B3 B4 d M s) (hx : x.toInt = a) (hy : y.toInt = b) (ha : a < 288) (hb : b < 288) (h : ¬ gapP τ lv a ∨ ¬ gapP τ lv b) : f_X0_join N s x y = some s := by
  obtain ⟨h1, h2, h3, L, h4, h5, h6⟩ := hS
  unfold f_X0_join
  by_cases ga : gapP τ lv a
  · rw [if_neg (gap_yes h4 h5 hx ga), if_pos (gap_no h4 hy hb (h.elim (fun h => absurd ga h) id))]
  · rw [if_pos (gap_no h4 hx ha ga)]
