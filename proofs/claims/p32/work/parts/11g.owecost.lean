/-! ===== pure: cost, climb, tempts ===== -/
def rv (t : gSt) (v : Nat) : Int32 := if t.1 14 v = 1000000000 then -1 else t.1 14 v
def rk (t : gSt) (v : Nat) : Int32 := if t.1 14 v = 1000000000 then -1 else t.1 15 v
/-- the best cost and climb from cell a to cell v -/
def dC (N : Nat) (τ : gSt) (z : Int32) (a v : Nat) : Int32 := rv ((f_X10_finds N τ (Int32.ofNat a) z).getD τ) v
def dK (N : Nat) (τ : gSt) (z : Int32) (a v : Nat) : Int32 := rk ((f_X10_finds N τ (Int32.ofNat a) z).getD τ) v
theorem dC_run {τ : gSt} {N a : Nat} {z : Int32} (hT : InvT τ) (hN : 1000000000000000000000 < N) (ha : a < 144) : ∃ t, Km τ t ∧ MapI (eT τ (z ≠ 0)) (wT τ) (uT τ) a 1000000000 (t.1 14) (t.1 15) ∧ Best (eT τ (z ≠ 0)) (wT τ) (uT τ) a (fun v => v < 144 ∧ t.1 14 v ≠ 1000000000) (fun v => (t.1 14 v).toInt) (fun v => (t.1 15 v).toInt) ∧ (∀ v, dC N τ z a v = rv t v) ∧ ∀ v, dK N τ z a v = rk t v := by
  obtain ⟨t, h1, h2, -, h3, h4⟩ := route_m (x2 := z) hT Km.rf hN (tnat (by omega)) ha
  refine ⟨t, h2, h3, h4, fun v => ?_, fun v => ?_⟩
  · unfold dC
    rw [h1]
    rfl
  · unfold dK
    rw [h1]
    rfl
theorem dC_ok {τ : gSt} {N a v : Nat} {z : Int32} (hT : InvT τ) (hN : 1000000000000000000000 < N) (ha : a < 144) (hv : v < 144) : (dC N τ z a v = -1 ∧ dK N τ z a v = -1) ∨ ((0 ≤ (dC N τ z a v).toInt ∧ (dC N τ z a v).toInt ≤ 152640) ∧ 0 ≤ (dK N τ z a v).toInt ∧ (dK N τ z a v).toInt ≤ 38160) := by
  obtain ⟨t, h1, h2, h3, h4, h5⟩ := dC_run (z := z) hT hN ha
  rw [h4, h5]
  unfold rv rk
  by_cases c : t.1 14 v = 1000000000
  · rw [if_pos c, if_pos c]
    exact Or.inl ⟨rfl, rfl⟩
  · rw [if_neg c, if_neg c]
    obtain ⟨a, b, c, d⟩ := h2.in_ hv c
    exact Or.inr ⟨⟨a, b⟩, c, d⟩
theorem dC_best {τ : gSt} {N a : Nat} {z : Int32} (hT : InvT τ) (hN : 1000000000000000000000 < N) (ha : a < 144) : Best (eT τ (z ≠ 0)) (wT τ) (uT τ) a (fun v => v < 144 ∧ dC N τ z a v ≠ -1) (fun v => (dC N τ z a v).toInt) (fun v => (dK N τ z a v).toInt) := by
  obtain ⟨t, h1, h2, h3, h4, h5⟩ := dC_run (z := z) hT hN ha
  have far : ∀ v, v < 144 → (dC N τ z a v ≠ -1 ↔ t.1 14 v ≠ 1000000000) := fun v hv => by
    rw [h4]
    unfold rv
    by_cases c : t.1 14 v = 1000000000
    · rw [if_pos c]; exact ⟨fun h => absurd rfl h, fun h => absurd c h⟩
    · rw [if_neg c]
      have := h2.in_ hv c
      exact ⟨fun _ => c, fun _ e => by rw [e, tlm1] at this; omega⟩
  have val : ∀ v, v < 144 → t.1 14 v ≠ 1000000000 → dC N τ z a v = t.1 14 v ∧ dK N τ z a v = t.1 15 v := fun v hv c => by
    rw [h4, h5]
    unfold rv rk
    rw [if_neg c, if_neg c]
    exact ⟨rfl, rfl⟩
  obtain ⟨b1, b2, b3, b4, b5⟩ := h3
  obtain ⟨v1, v2⟩ := val a ha b1.2
  refine ⟨⟨ha, (far a ha).mpr b1.2⟩, ?_, ?_, fun v hv => ?_, fun u v he hf => ?_⟩
  · show (dC N τ z a a).toInt = 0
    rw [v1]; exact b2
  · show (dK N τ z a a).toInt = 0
    rw [v2]; exact b3
  · have c := (far v hv.1).mp hv.2
    obtain ⟨e1, e2⟩ := val v hv.1 c
    obtain ⟨n, hn⟩ := b4 v ⟨hv.1, c⟩
    refine ⟨n, ?_⟩
    show Rch _ _ _ _ n v (dC N τ z a v).toInt (dK N τ z a v).toInt
    rw [e1, e2]
    exact hn
  · have c := (far u hf.1).mp hf.2
    obtain ⟨e1, e2⟩ := val u hf.1 c
    obtain ⟨⟨g1, g2⟩, g3⟩ := b5 u v he ⟨hf.1, c⟩
    obtain ⟨e3, e4⟩ := val v g1 g2
    refine ⟨⟨g1, (far v g1).mpr g2⟩, ?_⟩
    show lx (dC N τ z a v).toInt (dK N τ z a v).toInt ((dC N τ z a u).toInt + _) ((dK N τ z a u).toInt + _)
    rw [e1, e2, e3, e4]
    exact g3
theorem dC_self {τ : gSt} {N a : Nat} {z : Int32} (hT : InvT τ) (hN : 1000000000000000000000 < N) (ha : a < 144) : dC N τ z a a = 0 := teq.mpr (dC_best hT hN ha).2.1
theorem rch_mono {E E' : Nat → Nat → Prop} {w u : Nat → Nat → Int} {src : Nat} (h : ∀ a v, E a v → E' a v) : ∀ n v C K, Rch E w u src n v C K → Rch E' w u src n v C K := by
  intro n
  induction n with
  | zero => intro v C K h; exact h
  | succ n ih =>
    intro v C K ⟨a, C', K', h1, he, h2, h3⟩
    exact ⟨a, C', K', ih a C' K' h1, h a v he, h2, h3⟩
theorem dC_mono {τ : gSt} {N a v : Nat} (hT : InvT τ) (hN : 1000000000000000000000 < N) (ha : a < 144) (hv : v < 144) (h : dC N τ 0 a v ≠ -1) : dC N τ 1 a v ≠ -1 := by
  obtain ⟨n, hn⟩ := (dC_best (z := 0) hT hN ha).2.2.2.1 v ⟨hv, h⟩
  exact (low (dC_best (z := 1) hT hN ha) n v _ _ (rch_mono (fun a v he => ⟨he.1, Or.inl one_ne⟩) n v _ _ hn)).1.2
/-- both searches come to these -/
theorem find_m {τ s0 : gSt} {N src : Nat} {x1 z : Int32} (hT : InvT τ) (hK0 : Km τ s0) (hN : 1000000000000000000000 < N) (h1 : x1.toInt = src) (hs : src < 144) : Ok (fun t => Km τ t ∧ Kr s0 t ∧ ∀ v, v < 144 → rv t v = dC N τ z src v ∧ rk t v = dK N τ z src v) (f_X10_finds N s0 x1 z) := by
  obtain ⟨t, e, hK, hKr, hI, hB⟩ := route_m (x2 := z) hT hK0 hN h1 hs
  refine ⟨t, e, hK, hKr, fun v hv => ?_⟩
  obtain ⟨t', g1, g2, g3, g4, g5⟩ := dC_run (z := z) hT hN hs
  obtain ⟨o1, o2⟩ := best_one hB g3 v
  rw [g4, g5]
  unfold rv rk
  by_cases c : t.1 14 v = 1000000000
  · have c' : t'.1 14 v = 1000000000 := Classical.byContradiction (fun h => (o1.mpr ⟨hv, h⟩).2 c)
    rw [if_pos c, if_pos c, if_pos c', if_pos c']
    exact ⟨rfl, rfl⟩
  · have c' : ¬ t'.1 14 v = 1000000000 := (o1.mp ⟨hv, c⟩).2
    obtain ⟨p1, p2⟩ := o2 ⟨hv, c⟩
    rw [if_neg c, if_neg c, if_neg c', if_neg c']
    exact ⟨teq.mpr p1, teq.mpr p2⟩
theorem find_c {σ τ : gSt} {N src : Nat} {x1 z : Int32} (hR : Rel σ τ) (hN : 1000000000000000000000 < N) (h1 : x1.toInt = src) (hs : onK τ src) : Ok (fun s => Ks σ s ∧ ∀ v, v < 144 → s.1 5 v = dC N τ z src v ∧ s.1 6 v = dK N τ z src v) (f_X6_search N σ x1 z) := by
  obtain ⟨s, e, hK, hI, h6, hB⟩ := search_c (x2 := z) (N := N) hR (by omega) h1 hs
  refine ⟨s, e, hK, fun v hv => ?_⟩
  obtain ⟨t', g1, g2, g3, g4, g5⟩ := dC_run (z := z) hR.2.1 hN (onK_lt hR.2.1 hs)
  obtain ⟨o1, o2⟩ := best_one hB g3 v
  rw [g4, g5]
  unfold rv rk
  by_cases c : s.1 5 v = -1
  · have c' : t'.1 14 v = 1000000000 := Classical.byContradiction (fun h => (o1.mpr ⟨hv, h⟩).2 c)
    rw [if_pos c', if_pos c']
    exact ⟨c, h6 v hv c⟩
  · have c' : ¬ t'.1 14 v = 1000000000 := (o1.mp ⟨hv, c⟩).2
    obtain ⟨p1, p2⟩ := o2 ⟨hv, c⟩
    rw [if_neg c', if_neg c']
    exact ⟨teq.mpr p1, teq.mpr p2⟩
/-- the cell of a control -/
def cl (τ : gSt) (x : Int32) : Nat := (τ.1 2 x.toInt.toNat).toInt.toNat
theorem cl_in {τ : gSt} (hI : Inv τ) {x : Int32} (h : isC τ x) : onK τ (cl τ x) ∧ cl τ x < 144 ∧ (τ.1 2 x.toInt.toNat).toInt = cl τ x := by
  have h1 := h.1
  have h2 := h.2
  obtain ⟨a, b, c⟩ := hI.2.1.2.2.1 x.toInt.toNat (by omega)
  have e : (τ.1 2 x.toInt.toNat).toInt = cl τ x := by unfold cl; omega
  have ho : onK τ (cl τ x) := by
    unfold onK
    rw [e] at b c
    omega
  exact ⟨ho, onK_lt hI.1 ho, e⟩
theorem cl_c {σ τ : gSt} (hR : Rel σ τ) {x : Int32} (h : isC τ x) : f_X1_cellOf σ x = τ.1 2 x.toInt.toNat := by
  have h1 := h.1
  have h2 := h.2
  have h3 := hR.2.2.1.2.1
  unfold f_X1_cellOf
  rw [gget_in h1 (by rw [len30.2.2.1]; omega), hR.1.1.2.2.1]
theorem ctl12 {τ : gSt} (hI : Inv τ) {x : Int32} (h : isC τ x) : ¬ (x < 0 ∨ 12 ≤ x.toNatClampNeg) := by
  have h2 := h.2
  have h3 := hI.2.1.2.1
  exact gd h.1 (by omega)
/-- what a state of the reference holds behind a search -/
def MF2 (N : Nat) (τ : gSt) (z : Int32) (a : Nat) (s0 t : gSt) : Prop := Km τ t ∧ Kr s0 t ∧ ∀ v, v < 144 → rv t v = dC N τ z a v ∧ rk t v = dK N τ z a v
theorem costOf_m {τ s : gSt} {N : Nat} {x1 x2 : Int32} (hI : Inv τ) (hK : Km τ s) (hN : 1000000000000000000000 < N) (h1 : isC τ x1) (h2 : isC τ x2) : Ok (fun q => q.1 = dC N τ 0 (cl τ x1) (cl τ x2) ∧ MF2 N τ 0 (cl τ x1) s q.2) (f_X10_costOf N s x1 x2) := by
  obtain ⟨a1, a2, a3⟩ := cl_in hI h1
  obtain ⟨b1, b2, b3⟩ := cl_in hI h2
  have e1 : g_ga s 2 x1 = τ.1 2 x1.toInt.toNat := by unfold g_ga; rw [tcl, hK.1 2 (by decide)]
  unfold f_X10_costOf
  refine okf (ctl12 hI h1) ?_
  rw [e1]
  refine (find_m hI.1 hK hN a3 a2).bind (fun t ht => ?_)
  have e2 : g_ga t 2 x2 = τ.1 2 x2.toInt.toNat := by unfold g_ga; rw [tcl, ht.1.1 2 (by decide)]
  have g2 : ¬ (τ.1 2 x2.toInt.toNat < 0 ∨ 144 ≤ (τ.1 2 x2.toInt.toNat).toNatClampNeg) := gd (by omega) (by omega)
  have e3 : g_ga t 14 (τ.1 2 x2.toInt.toNat) = t.1 14 (cl τ x2) := ga_at b3
  have hv := (ht.2.2 _ b2).1
  unfold rv at hv
  rw [e2, e3]
  refine okf (ctl12 hI h2) (okf g2 ?_)
  by_cases c : t.1 14 (cl τ x2) = 1000000000
  · rw [if_pos c] at hv
    exact okt c (Ok.some ⟨hv, ht⟩)
  · rw [if_neg c] at hv
    exact okf c (okf (ctl12 hI h2) (okf g2 (Ok.some ⟨hv, ht⟩)))
theorem bothC {τ : gSt} {x1 x2 : Int32} (h : ¬ (isC τ x1 ∧ isC τ x2)) (h1 : isC τ x1) : ¬ isC τ x2 := fun e => h ⟨h1, e⟩
theorem owe_cost {N : Nat} (hN : 1000000000000000000000 < N) : Owe_cost N := by
  intro σ τ x1 x2 hR
  have hI := hR.2
  unfold f_X9_cost f_X10_cost
  simp only [gJoin1, gJoin0]
  by_cases h1 : isC τ x1
  · rw [needC_yes hR.1 h1, if_pos rfl, ctl_yes hI.2.1 h1, if_neg one_ne]
    by_cases h2 : isC τ x2
    · rw [needC_yes hR.1 h2, if_pos rfl, ctl_yes hI.2.1 h2, if_neg one_ne, asked1, if_neg one_ne]
      have hR6 := hR.six (x := 0)
      obtain ⟨a1, a2, a3⟩ := cl_in hR6.2 h1
      obtain ⟨b1, b2, b3⟩ := cl_in hR6.2 h2
      obtain ⟨s, e1, hK, hs⟩ := find_c (z := 0) hR6 hN a3 a1
      obtain ⟨⟨b, t⟩, e2, hb, hM⟩ := costOf_m hR6.2 Km.rf hN h1 h2
      rw [cl_c hR6 h1, e1, Option.bind_some, e2, Option.bind_some]
      refine Agr.yes (hR6.keep hK.kc hM.1) (Or.inl rfl) (six0 hM.1) ?_
      show b = f_X6_costTo s (f_X1_cellOf s x2)
      unfold f_X6_costTo
      rw [cl_c (hR6.keep hK.kc Km.rf) h2, gget_in (by omega) (by rw [len144c.1]; omega)]
      exact hb.trans (hs _ b2).1.symm
    · rw [needC_no hR.1 h2, if_neg onen, ctl_no hI.2.1 h2, if_pos rfl, asked0, if_pos rfl]
      exact Agr.no hR (by decide) (Or.inr rfl) rfl
  · rw [needC_no hR.1 h1, if_neg onen, ctl_no hI.2.1 h1, if_pos rfl, asked0, if_pos rfl]
    exact Agr.no hR (by decide) (Or.inr rfl) rfl
theorem owe_climb {N : Nat} (hN : 1000000000000000000000 < N) : Owe_climb N := by
  intro σ τ x1 x2 hR
  have hI := hR.2
  unfold f_X9_climb f_X10_climb
  simp only [gJoin1, gJoin0]
  by_cases h1 : isC τ x1
  · rw [needC_yes hR.1 h1, if_pos rfl, ctl_yes hI.2.1 h1, if_neg one_ne]
    by_cases h2 : isC τ x2
    · rw [needC_yes hR.1 h2, if_pos rfl, ctl_yes hI.2.1 h2, if_neg one_ne, asked1, if_neg one_ne]
      have hR6 := hR.six (x := 0)
      obtain ⟨a1, a2, a3⟩ := cl_in hR6.2 h1
      obtain ⟨b1, b2, b3⟩ := cl_in hR6.2 h2
      obtain ⟨s, e1, hK, hs⟩ := find_c (z := 0) hR6 hN a3 a1
      obtain ⟨⟨b, t⟩, e2, hb, hM⟩ := costOf_m hR6.2 Km.rf hN h1 h2
      have e3 : g_ga t 2 x2 = τ.1 2 x2.toInt.toNat := by unfold g_ga; rw [tcl, hM.1.1 2 (by decide)]; rfl
      have e4 : g_ga t 15 (τ.1 2 x2.toInt.toNat) = t.1 15 (cl τ x2) := ga_at b3
      rw [cl_c hR6 h1, e1, Option.bind_some, e2, Option.bind_some]
      have hv := hM.2.2 _ b2
      have eC : f_X6_climbTo s (f_X1_cellOf s x2) = dK N (g_sf τ 6 0) 0 (cl (g_sf τ 6 0) x1) (cl (g_sf τ 6 0) x2) := by
        unfold f_X6_climbTo
        rw [cl_c (hR6.keep hK.kc Km.rf) h2, gget_in (by omega) (by rw [len144c.2.1]; omega)]
        exact (hs _ b2).2
      rw [eC]
      dsimp only at hb ⊢
      rcases dC_ok (z := 0) hR6.2.1 hN a2 b2 with ⟨o1, o2⟩ | ⟨o1, o2⟩
      · rw [hb, o1, if_pos rfl, o2]
        exact Agr.yes (hR6.keep hK.kc hM.1) (Or.inl rfl) (six0 hM.1) rfl
      · rw [hb, if_neg (fun e => by rw [e, tlm1] at o1; omega), if_neg (ctl12 hI h2), e3, if_neg (gd (n := 144) (x := τ.1 2 x2.toInt.toNat) (by have := b3; show 0 ≤ ((g_sf τ 6 0).1 2 x2.toInt.toNat).toInt; omega) (by have := b3; show ((g_sf τ 6 0).1 2 x2.toInt.toNat).toInt < _; omega)), e4]
        refine Agr.yes (hR6.keep hK.kc hM.1) (Or.inl rfl) (six0 hM.1) ?_
        have hv2 := hv.2
        unfold rk at hv2
        by_cases c : t.1 14 (cl (g_sf τ 6 0) x2) = 1000000000
        · have hv1 := hv.1
          unfold rv at hv1
          rw [if_pos c] at hv1
          rw [← hv1, tlm1] at o1
          omega
        · rw [if_neg c] at hv2
          exact hv2
    · rw [needC_no hR.1 h2, if_neg onen, ctl_no hI.2.1 h2, if_pos rfl, asked0, if_pos rfl]
      exact Agr.no hR (by decide) (Or.inr rfl) rfl
  · rw [needC_no hR.1 h1, if_neg onen, ctl_no hI.2.1 h1, if_pos rfl, asked0, if_pos rfl]
    exact Agr.no hR (by decide) (Or.inr rfl) rfl
theorem owe_tempts {N : Nat} (hN : 1000000000000000000000 < N) : Owe_tempts N := by
  intro σ τ x1 x2 hR
  have hI := hR.2
  unfold f_X9_tempts f_X10_tempts
  simp only [gJoin1, gJoin0]
  by_cases h1 : isC τ x1
  · rw [needC_yes hR.1 h1, if_pos rfl, ctl_yes hI.2.1 h1, if_neg one_ne]
    by_cases h2 : isC τ x2
    · rw [needC_yes hR.1 h2, if_pos rfl, ctl_yes hI.2.1 h2, if_neg one_ne, asked1, if_neg one_ne]
      have hR6 := hR.six (x := 0)
      obtain ⟨a1, a2, a3⟩ := cl_in hR6.2 h1
      obtain ⟨b1, b2, b3⟩ := cl_in hR6.2 h2
      obtain ⟨s, e1, hK, hs⟩ := find_c (z := 0) hR6 hN a3 a1
      have hRs := hR6.keep hK.kc Km.rf
      obtain ⟨s', e2, hK', hs'⟩ := find_c (z := 1) hRs hN a3 a1
      rw [cl_c hR6 h1, cl_c hR6 h2, e1, Option.bind_some, cl_c hRs h1, e2, Option.bind_some]
      have q1 : f_X6_costTo s ((g_sf τ 6 0).1 2 x2.toInt.toNat) = dC N (g_sf τ 6 0) 0 (cl (g_sf τ 6 0) x1) (cl (g_sf τ 6 0) x2) := by
        unfold f_X6_costTo
        rw [gget_in (by omega) (by rw [len144c.1]; omega)]
        exact (hs _ b2).1
      have q2 : f_X6_costTo s' ((g_sf τ 6 0).1 2 x2.toInt.toNat) = dC N (g_sf τ 6 0) 1 (cl (g_sf τ 6 0) x1) (cl (g_sf τ 6 0) x2) := by
        unfold f_X6_costTo
        rw [gget_in (by omega) (by rw [len144c.1]; omega)]
        exact (hs' _ b2).1
      rw [q1, q2]
      dsimp only
      by_cases c : x1 = x2
      · rw [if_pos c]
        subst c
        rw [dC_self hR6.2.1 hN a2, dC_self hR6.2.1 hN a2, if_neg (by decide), if_pos (by decide)]
        exact Agr.yes (hR6.keep (hK.kc.trans hK'.kc) Km.rf) (Or.inl rfl) (by rw [sf_2, if_pos rfl]; rfl) Iff.rfl
      · rw [if_neg c]
        obtain ⟨⟨b, t⟩, e3, hb, hM⟩ := costOf_m hR6.2 Km.rf hN h1 h2
        have e5 : g_ga t 2 x1 = (g_sf τ 6 0).1 2 x1.toInt.toNat := by unfold g_ga; rw [tcl, hM.1.1 2 (by decide)]
        obtain ⟨t', e4, hK4, -, ht'⟩ := find_m (z := 1) hR6.2.1 hM.1 hN a3 a2
        rw [e3, Option.bind_some]
        dsimp only at hb ⊢
        rw [if_neg (ctl12 hI h1), e5, e4, Option.bind_some, hb]
        have hRf := hR6.keep (hK.kc.trans hK'.kc) hK4
        by_cases c2 : dC N (g_sf τ 6 0) 0 (cl (g_sf τ 6 0) x1) (cl (g_sf τ 6 0) x2) = -1
        · rw [if_pos c2, if_pos c2]
          exact Agr.yes hRf (Or.inl rfl) (six0 hK4) Iff.rfl
        · have hm := dC_mono hR6.2.1 hN a2 b2 c2
          have e6 : g_ga t' 2 x2 = (g_sf τ 6 0).1 2 x2.toInt.toNat := by unfold g_ga; rw [tcl, hK4.1 2 (by decide)]
          have e7 : g_ga t' 14 ((g_sf τ 6 0).1 2 x2.toInt.toNat) = t'.1 14 (cl (g_sf τ 6 0) x2) := ga_at b3
          have hv := (ht' _ b2).1
          unfold rv at hv
          have nf : ¬ t'.1 14 (cl (g_sf τ 6 0) x2) = 1000000000 := fun e => by
            rw [if_pos e] at hv
            exact hm hv.symm
          rw [if_neg nf] at hv
          rw [if_neg c2, if_neg c2, if_neg (ctl12 hI h2), e6, if_neg (gd (n := 144) (by omega) (by omega)), e7, hv]
          by_cases c3 : dC N (g_sf τ 6 0) 0 (cl (g_sf τ 6 0) x1) (cl (g_sf τ 6 0) x2) ≤ dC N (g_sf τ 6 0) 1 (cl (g_sf τ 6 0) x1) (cl (g_sf τ 6 0) x2)
          · rw [if_pos c3, if_pos c3]
            exact Agr.yes hRf (Or.inl rfl) (six0 hK4) Iff.rfl
          · rw [if_neg c3, if_neg c3]
            exact Agr.yes hRf (Or.inl rfl) (six0 hK4) Iff.rfl
    · rw [needC_no hR.1 h2, if_neg onen, ctl_no hI.2.1 h2, if_pos rfl, asked0, if_pos rfl]
      exact Agr.no hR (by decide) (Or.inr rfl) rfl
  · rw [needC_no hR.1 h1, if_neg onen, ctl_no hI.2.1 h1, if_pos rfl, asked0, if_pos rfl]
    exact Agr.no hR (by decide) (Or.inr rfl) rfl
