/-! ===== pure: turned maps: routes ===== -/
theorem tp_one {k : Nat} (h : k % 12 + 1 < 12) : tp (k + 1) = tp k + 12 := by unfold tp; omega
theorem tp_down {k : Nat} (h : k / 12 + 1 < 12) : tp (k + 12) = tp k + 1 := by unfold tp; omega
theorem Tr.symm {τ t : gSt} (h : Tr τ t) (hI : Inv τ) : Tr t τ := by
  have hC := hI.2.1
  have hT := hI.1
  obtain ⟨⟨h0, h1, h2, h3, h4⟩, hh, hg, hc, hr⟩ := h
  refine ⟨⟨h1.symm, h0.symm, h2.symm, h3.symm, h4.symm⟩, fun k hk => ?_, fun k hk => ?_, fun k hk => ?_, fun r r3 r11 => (hr r r3 r11).symm⟩
  · have := hh (tp k) (tp_lt hk)
    rw [tp_tp hk] at this
    exact this.symm
  · have := hg (tp k) (tp_lt hk)
    rw [tp_tp hk] at this
    exact this.symm
  · rw [h2] at hk
    have g1 := hc k hk
    have g2 := hC.2.2.1 k hk
    obtain ⟨w1, w2, w3, w4, -⟩ := hT
    have e : (t.1 2 k).toInt.toNat = tp (τ.1 2 k).toInt.toNat := by omega
    rw [e, tp_tp (by omega)]
    omega
theorem nb_tp {τ t : gSt} (hT : InvT τ) (h : Tr τ t) {a v : Nat} (hn : nb τ a v) : nb t (tp a) (tp v) := by
  obtain ⟨k1, k2, a144, v144, -⟩ := nb_in hT hn
  obtain ⟨w1, w2, w3, w4, -⟩ := hT
  have e0 := h.1.1
  have e1 := h.1.2.1
  have m1 := tp_mod a144
  have m2 := tp_div a144
  have m3 := tp_mod v144
  have m4 := tp_div v144
  unfold nb nbR nbD onK at hn ⊢
  rw [e0, e1, m1, m2, m3, m4]
  rcases hn with ⟨⟨⟨p1, p2⟩, p3⟩, rfl⟩ | ⟨⟨⟨p1, p2⟩, p3⟩, rfl⟩ | ⟨⟨⟨p1, p2⟩, p3⟩, rfl⟩ | ⟨⟨⟨p1, p2⟩, p3⟩, rfl⟩
  · exact Or.inr (Or.inr (Or.inl ⟨⟨⟨p2, p1⟩, p3⟩, tp_one (by omega)⟩))
  · exact Or.inr (Or.inr (Or.inr ⟨⟨⟨p2, p1⟩, p3⟩, tp_one (by omega)⟩))
  · exact Or.inl ⟨⟨⟨p2, p1⟩, p3⟩, tp_down (by omega)⟩
  · exact Or.inr (Or.inl ⟨⟨⟨p2, p1⟩, p3⟩, tp_down (by omega)⟩)
theorem eT_tp {τ t : gSt} (hT : InvT τ) (h : Tr τ t) {all : Prop} {a v : Nat} (he : eT τ all a v) : eT t all (tp a) (tp v) := by
  obtain ⟨k1, k2, a144, v144, -⟩ := nb_in hT he.1
  refine ⟨nb_tp hT h he.1, he.2.imp id (fun e => ?_)⟩
  rw [h.2.2.1 v v144]
  exact e
theorem uT_tp {τ t : gSt} (h : Tr τ t) {a v : Nat} (ha : a < 144) (hv : v < 144) : uT t (tp a) (tp v) = uT τ a v := by
  unfold uT
  rw [h.2.1 a ha, h.2.1 v hv]
theorem wT_tp {τ t : gSt} (h : Tr τ t) {a v : Nat} (ha : a < 144) (hv : v < 144) : wT t (tp a) (tp v) = wT τ a v := by
  unfold wT
  rw [uT_tp h ha hv, h.2.2.1 v hv]
theorem rch_tp {τ t : gSt} (hT : InvT τ) (h : Tr τ t) {all : Prop} {a : Nat} (ha : a < 144) : ∀ n v C K, Rch (eT τ all) (wT τ) (uT τ) a n v C K → v < 144 ∧ Rch (eT t all) (wT t) (uT t) (tp a) n (tp v) C K := by
  intro n
  induction n with
  | zero =>
    rintro v C K ⟨h1, h2, h3⟩
    subst h1
    exact ⟨ha, rfl, h2, h3⟩
  | succ n ih =>
    rintro v C K ⟨x, C', K', h1, h2, h3, h4⟩
    obtain ⟨x144, g⟩ := ih x C' K' h1
    obtain ⟨-, -, -, v144, -⟩ := nb_in hT h2.1
    exact ⟨v144, tp x, C', K', g, eT_tp hT h h2, by rw [wT_tp h x144 v144]; exact h3, by rw [uT_tp h x144 v144]; exact h4⟩
theorem dC_tp {τ t : gSt} {N a v : Nat} {z : Int32} (hI : Inv τ) (hI' : Inv t) (hN : 1000000000000000000000 < N) (h : Tr τ t) (ha : a < 144) (hv : v < 144) : dC N t z (tp a) (tp v) = dC N τ z a v ∧ dK N t z (tp a) (tp v) = dK N τ z a v := by
  have hT := hI.1
  have hT' := hI'.1
  have hs := h.symm hI
  obtain ⟨b1, b2, b3, b4, b5⟩ := dC_best (z := z) hT hN ha
  have B2 := dC_best (z := z) hT' hN (tp_lt ha)
  have B1 : Best (eT t (z ≠ 0)) (wT t) (uT t) (tp a) (fun v => v < 144 ∧ dC N τ z a (tp v) ≠ -1) (fun v => (dC N τ z a (tp v)).toInt) (fun v => (dK N τ z a (tp v)).toInt) := by
    refine ⟨⟨tp_lt ha, ?_⟩, ?_, ?_, fun x hx => ?_, fun x y hxy hx => ?_⟩
    · rw [tp_tp ha]; exact b1.2
    · show (dC N τ z a (tp (tp a))).toInt = 0
      rw [tp_tp ha]; exact b2
    · show (dK N τ z a (tp (tp a))).toInt = 0
      rw [tp_tp ha]; exact b3
    · obtain ⟨n, hn⟩ := b4 (tp x) ⟨tp_lt hx.1, hx.2⟩
      have := (rch_tp hT h ha n _ _ _ hn).2
      rw [tp_tp hx.1] at this
      exact ⟨n, this⟩
    · obtain ⟨-, -, x144, y144, -⟩ := nb_in hT' hxy.1
      have he := eT_tp hT' hs hxy
      obtain ⟨g1, g2⟩ := b5 (tp x) (tp y) he ⟨tp_lt x144, hx.2⟩
      rw [wT_tp hs x144 y144, uT_tp hs x144 y144] at g2
      exact ⟨⟨y144, g1.2⟩, g2⟩
  obtain ⟨f1, f2⟩ := best_one B1 B2 (tp v)
  rw [tp_tp hv] at f1 f2
  have hv' := tp_lt hv
  by_cases c : dC N τ z a v = -1
  · have c' : dC N t z (tp a) (tp v) = -1 := by
      by_cases q : dC N t z (tp a) (tp v) = -1
      · exact q
      · exact absurd c (f1.mpr ⟨hv', q⟩).2
    rcases dC_ok (z := z) hT hN ha hv with ⟨-, g⟩ | ⟨⟨g, -⟩, -⟩
    · rcases dC_ok (z := z) hT' hN (tp_lt ha) hv' with ⟨-, g'⟩ | ⟨⟨g', -⟩, -⟩
      · exact ⟨c'.trans c.symm, g'.trans g.symm⟩
      · rw [c', tlm1] at g'; omega
    · rw [c, tlm1] at g; omega
  · obtain ⟨e1, e2⟩ := f2 ⟨hv', c⟩
    exact ⟨(teq.mpr e1).symm, (teq.mpr e2).symm⟩
/-- the cells of a control in both -/
theorem cl_tp {τ t : gSt} (hI : Inv τ) (h : Tr τ t) {x : Int32} (hx : isC τ x) : cl t x = tp (cl τ x) := by
  have h1 := hx.1
  have h2 := hx.2
  have g := h.2.2.2.1 x.toInt.toNat (by omega)
  unfold cl
  rw [g]
  rfl
theorem dC_cl {τ t : gSt} {N : Nat} {z x y : Int32} (hI : Inv τ) (hI' : Inv t) (hN : 1000000000000000000000 < N) (h : Tr τ t) (hx : isC τ x) (hy : isC τ y) : dC N t z (cl t x) (cl t y) = dC N τ z (cl τ x) (cl τ y) ∧ dK N t z (cl t x) (cl t y) = dK N τ z (cl τ x) (cl τ y) := by
  rw [cl_tp hI h hx, cl_tp hI h hy]
  exact dC_tp hI hI' hN h (cl_in hI hx).2.1 (cl_in hI hy).2.1
