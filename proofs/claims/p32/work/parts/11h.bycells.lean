/-! ===== pure: costByCells ===== -/
theorem cnt_more {p q : Nat → Prop} {r : Nat} (hpq : ∀ k, p k → q k) (hp : ¬ p r) (hq : q r) : ∀ n, cnt p n + (if r < n then 1 else 0) ≤ cnt q n := by
  intro n
  induction n with
  | zero => exact Nat.le_refl _
  | succ n ih =>
    by_cases hn : n = r
    · subst hn
      rw [cnt_pos hq, cnt_neg hp, if_pos (by omega)]
      rw [if_neg (by omega)] at ih
      omega
    · by_cases c : p n
      · rw [cnt_pos c, cnt_pos (hpq n c)]
        by_cases c2 : r < n
        · rw [if_pos c2] at ih
          rw [if_pos (by omega)]
          omega
        · rw [if_neg c2] at ih
          rw [if_neg (by omega)]
          omega
      · have : cnt q n ≤ cnt q (n + 1) := by
          by_cases c3 : q n
          · rw [cnt_pos c3]; omega
          · rw [cnt_neg c3]; exact Nat.le_refl _
        rw [cnt_neg c]
        by_cases c2 : r < n
        · rw [if_pos c2] at ih
          rw [if_pos (by omega)]
          omega
        · rw [if_neg c2] at ih
          rw [if_neg (by omega)]
          omega
/-- what is final among the costs f -/
def FN (N : Nat) (τ : gSt) (src : Nat) (f : Nat → Int32) (k : Nat) : Prop := (k < 144 ∧ dC N τ 0 src k ≠ -1) ∧ f k ≠ -1 ∧ f k = dC N τ 0 src k
def MapJ (τ : gSt) (src : Nat) (f : Nat → Int32) : Prop := MapI (eT τ ((0 : Int32) ≠ 0)) (wT τ) (fun _ _ => 0) src (-1) f (fun _ => 0) ∧ ∀ v, v < 144 → f v ≠ -1 → onK τ v
theorem dC_flat {τ : gSt} {N a : Nat} (hT : InvT τ) (hN : 1000000000000000000000 < N) (ha : a < 144) : Best (eT τ ((0 : Int32) ≠ 0)) (wT τ) (fun _ _ => 0) a (fun v => v < 144 ∧ dC N τ 0 a v ≠ -1) (fun v => (dC N τ 0 a v).toInt) (fun _ => 0) := best_flat (dC_best hT hN ha)
theorem MapJ.low {τ : gSt} {N src : Nat} {f : Nat → Int32} (h : MapJ τ src f) (hT : InvT τ) (hN : 1000000000000000000000 < N) (ha : src < 144) {v : Nat} (hv : v < 144) (hf : f v ≠ -1) : dC N τ 0 src v ≠ -1 ∧ (dC N τ 0 src v).toInt ≤ (f v).toInt := by
  obtain ⟨n, hn⟩ := h.1.2.2.1 v hv hf
  obtain ⟨⟨-, a⟩, b⟩ := _root_.Jvm.Pilot.CSpurlineLaw_law_r9100_9c6fe0.low (dC_flat hT hN ha) n v _ _ hn
  refine ⟨a, ?_⟩
  unfold lx at b
  omega
/-- within a round that began with the costs f0: the cells below a are gone over, and of a the sides below i -/
def RI (N : Nat) (τ : gSt) (src : Nat) (f0 : Nat → Int32) (a i : Nat) (f : Nat → Int32) : Prop := MapJ τ src f ∧ (∀ v, v < 144 → f0 v ≠ -1 → f v ≠ -1 ∧ (f v).toInt ≤ (f0 v).toInt) ∧ (∀ k v, FN N τ src f0 k → eT τ ((0 : Int32) ≠ 0) k v → (k < a ∨ (k = a ∧ ∃ i', i' < i ∧ sd k v i')) → f v ≠ -1 ∧ (f v).toInt ≤ (dC N τ 0 src k).toInt + wT τ k v)
theorem RI.put {N : Nat} {τ : gSt} {src a i v : Nat} {f0 f : Nat → Int32} {x : Int32} (hT : InvT τ) (h : RI N τ src f0 a i f) (he : eT τ ((0 : Int32) ≠ 0) a v) (hs : sd a v i) (ha : f a ≠ -1) (hx : x.toInt = (f a).toInt + wT τ a v) (hv : f v = -1 ∨ x.toInt < (f v).toInt) (hF : FN N τ src f0 a → (f a).toInt ≤ (dC N τ 0 src a).toInt) : RI N τ src f0 a (i + 1) (upd f v x) := by
  obtain ⟨-, nk, a144, v144, av⟩ := nb_in hT he.1
  obtain ⟨w1, w2, w3, w4, w5⟩ := wT_in hT a v
  obtain ⟨⟨d1, d2⟩, d3, d4⟩ := h
  have ia := d1.in_ a144 ha
  have xm : x ≠ -1 := fun e => by rw [e, tlm1] at hx; omega
  have hg : upd (fun _ => (0 : Int32)) v 0 = fun _ => 0 := by
    funext q
    rw [upd_at]
    split <;> rfl
  have m1 := d1.relax (ew_T0 hT _) (Or.inl (by rw [tlm1]; omega)) he ha (x := x) (y := 0) hx (by show (0 : Int) = 0 + 0; omega) (hv.elim Or.inl (fun h => Or.inr (by omega)))
  rw [hg] at m1
  have fo : ∀ q, q ≠ v → upd f v x q = f q := fun q h => by rw [upd_at, if_neg h]
  have fv : upd f v x v = x := by rw [upd_at, if_pos rfl]
  refine ⟨⟨m1, fun q hq hf => ?_⟩, fun q hq hf => ?_, fun k q hk hE hq => ?_⟩
  · by_cases e : q = v
    · rw [e]; exact nk
    · rw [fo q e] at hf
      exact d2 q hq hf
  · obtain ⟨g1, g2⟩ := d3 q hq hf
    by_cases e : q = v
    · subst e
      rw [fv]
      refine ⟨xm, ?_⟩
      rcases hv with g | g
      · exact absurd g g1
      · omega
    · rw [fo q e]
      exact ⟨g1, g2⟩
  · have new : (k = a ∧ q = v) → upd f v x q ≠ -1 ∧ (upd f v x q).toInt ≤ (dC N τ 0 src k).toInt + wT τ k q := fun ⟨e1, e2⟩ => by
      rw [e2, e1, fv, hx]
      rw [e1] at hk
      have := hF hk
      exact ⟨xm, by omega⟩
    have old : (k < a ∨ (k = a ∧ ∃ i', i' < i ∧ sd k q i')) → upd f v x q ≠ -1 ∧ (upd f v x q).toInt ≤ (dC N τ 0 src k).toInt + wT τ k q := fun hq => by
      obtain ⟨g1, g2⟩ := d4 k q hk hE hq
      by_cases e : q = v
      · subst e
        rw [fv]
        refine ⟨xm, ?_⟩
        rcases hv with g | g
        · exact absurd g g1
        · omega
      · rw [fo q e]
        exact ⟨g1, g2⟩
    rcases hq with hq | ⟨e, i', h1, h2⟩
    · exact old (Or.inl hq)
    · by_cases e2 : i' = i
      · subst e2
        rw [e] at h2
        exact new ⟨e, sd_one h2 hs⟩
      · exact old (Or.inr ⟨e, i', by omega, h2⟩)
theorem RI.next {N : Nat} {τ : gSt} {src a i : Nat} {f0 f : Nat → Int32} (h : RI N τ src f0 a i f) (hn : ∀ v, FN N τ src f0 a → eT τ ((0 : Int32) ≠ 0) a v → sd a v i → f v ≠ -1 ∧ (f v).toInt ≤ (dC N τ 0 src a).toInt + wT τ a v) : RI N τ src f0 a (i + 1) f := by
  obtain ⟨d1, d3, d4⟩ := h
  refine ⟨d1, d3, fun k q hk hE hq => ?_⟩
  rcases hq with hq | ⟨e, i', h1, h2⟩
  · exact d4 k q hk hE (Or.inl hq)
  · by_cases e2 : i' = i
    · subst e2
      subst e
      exact hn q hk hE h2
    · exact d4 k q hk hE (Or.inr ⟨e, i', by omega, h2⟩)
theorem RI.up {N : Nat} {τ : gSt} {src a : Nat} {f0 f : Nat → Int32} (h : RI N τ src f0 a 4 f) : RI N τ src f0 (a + 1) 0 f := by
  obtain ⟨d1, d3, d4⟩ := h
  refine ⟨d1, d3, fun k q hk hE hq => ?_⟩
  rcases hq with hq | ⟨_, i', h1, _⟩
  · by_cases e : k = a
    · subst e
      obtain ⟨i', g1, g2⟩ := sd_ex hE.1
      exact d4 k q hk hE (Or.inr ⟨rfl, i', g1, g2⟩)
    · exact d4 k q hk hE (Or.inl (by omega))
  · omega
theorem RI.fin {N : Nat} {τ : gSt} {src a i k : Nat} {f0 f : Nat → Int32} (h : RI N τ src f0 a i f) (hT : InvT τ) (hN : 1000000000000000000000 < N) (ha : src < 144) (hk : FN N τ src f0 k) : f k ≠ -1 ∧ f k = dC N τ 0 src k := by
  obtain ⟨⟨k1, k2⟩, k3, k4⟩ := hk
  obtain ⟨g1, g2⟩ := h.2.1 k k1 k3
  have := (h.1.low hT hN ha k1 g1).2
  refine ⟨g1, teq.mpr ?_⟩
  rw [k4] at g2
  omega
theorem cheapen_c {σ τ u : gSt} {N src a : Nat} {x1 : Int32} {f0 : Nat → Int32} (hR : Rel σ τ) (hN : 1000000000000000000000 < N) (hs : src < 144) (hK : Kc σ u) (hx : x1.toInt = a) (ha : a < 144) (h : RI N τ src f0 a 0 (u.1 5)) : Ok (fun (q : Int32 × gSt) => ((q.1 = 0 ∧ q.2 = u) ∨ q.1 = 1) ∧ Kc σ q.2 ∧ RI N τ src f0 (a + 1) 0 (q.2.1 5)) (f_X6_cheapen N u x1) := by
  have hT := hR.2.1
  unfold f_X6_cheapen
  refine gLoop3_ok (fun m (w v : Int32) s => ∃ i : Nat, i ≤ 4 ∧ (m : Int) = 4 - i ∧ v.toInt = i ∧ ((w = 0 ∧ s = u) ∨ w = 1) ∧ Kc σ s ∧ RI N τ src f0 a i (s.1 5)) ?_ N 4 0 0 u (by omega) ⟨0, by omega, by omega, rfl, Or.inl ⟨rfl, rfl⟩, hK, h⟩
  intro m w v s self ⟨i, hi, hm, hv, hw, hKs, hI⟩ ih
  have out : RI N τ src f0 (a + 1) 0 (s.1 5) → Ok (fun (q : Int32 × gSt) => ((q.1 = 0 ∧ q.2 = u) ∨ q.1 = 1) ∧ Kc σ q.2 ∧ RI N τ src f0 (a + 1) 0 (q.2.1 5)) (some (w &&& 1, s)) := fun h => Ok.some ⟨by
    rcases hw with ⟨h1, h2⟩ | h1
    · exact Or.inl ⟨by show w &&& 1 = 0; rw [h1]; decide, h2⟩
    · exact Or.inr (by show w &&& 1 = 1; rw [h1]; decide), hKs, h⟩
  by_cases c : 4 ≤ v
  · refine okt c (out ?_)
    rw [tle, tl4, hv] at c
    rw [show i = 4 by omega] at hI
    exact hI.up
  · refine okf c ?_
    rw [tle, tl4, hv] at c
    have g5 : gget s 5 x1 = s.1 5 a := by
      rw [gget_in (by omega) (by rw [len144c.1]; omega), hx]
      rfl
    rw [g5]
    by_cases c1 : s.1 5 a = -1
    · refine okt c1 (out ?_)
      obtain ⟨d1, d3, d4⟩ := hI
      refine ⟨d1, d3, fun k q hk hE hq => ?_⟩
      by_cases e : k = a
      · subst e
        exact absurd c1 (d3 k ha hk.2.1).1
      · exact d4 k q hk hE (Or.inl (hq.elim (fun h => by omega) (fun ⟨_, i', h1, _⟩ => by omega)))
    · refine okf c1 (ok2 ?_)
      have hM := mc_of hR hKs
      have hk : onK τ a := hI.1.2 a ha c1
      have e1 := inc1 (v := v) (n := 4) (by omega) (by omega)
      have go : ∀ w' s', ((w' = 0 ∧ s' = u) ∨ w' = 1) → Kc σ s' → RI N τ src f0 a (i + 1) (s'.1 5) → Ok (fun (q : Int32 × gSt) => ((q.1 = 0 ∧ q.2 = u) ∨ q.1 = 1) ∧ Kc σ q.2 ∧ RI N τ src f0 (a + 1) 0 (q.2.1 5)) (self w' (v + 1) s') := fun w' s' h1 h2 h3 => ih (m - 1) w' (v + 1) s' (by omega) ⟨i + 1, by omega, by omega, by omega, h1, h2, h3⟩
      rcases beyond_c hT hM hx hk hv (by omega) with ⟨b1, b2⟩ | ⟨b, b1, b2, b3⟩
      · exact okt b1 (go w s hw hKs (hI.next (fun q _ hE hs => absurd hs (b2 q hE.1))))
      · have bm : f_X8_beyond s x1 v ≠ -1 := fun e => by rw [e, tlm1] at b1; omega
        obtain ⟨-, na, -, b144, ab⟩ := nb_in hT b2
        refine okf bm ?_
        by_cases c2 : f_X8_isForbidden s (f_X8_beyond s x1 v) = 0
        · refine okt c2 (ok0 ?_)
          have hE : eT τ ((0 : Int32) ≠ 0) a b := ⟨b2, Or.inr ((forb_at hM b1 b144).mp c2)⟩
          have ia := hI.1.1.in_ ha c1
          have eX := cost_at (c := s.1 5 a) hT hM hx ha b1 b144 (by omega)
          have g5b : gget s 5 (f_X8_beyond s x1 v) = s.1 5 b := by
            rw [gget_in (by omega) (by rw [len144c.1]; omega), b1]
            rfl
          rw [g5b, gput_in (by omega) (by rw [len144c.1]; omega), b1]
          generalize hX : ((s.1 5 a) + (f_X8_paceCost s (f_X8_beyond s x1 v))) + (4 * (f_X8_climbBetween s x1 (f_X8_beyond s x1 v))) = X at eX
          have hF : FN N τ src f0 a → (s.1 5 a).toInt ≤ (dC N τ 0 src a).toInt := fun h => by
            rw [(hI.fin hT hN hs h).2]
            exact Int.le_refl _
          have put : (s.1 5 b = -1 ∨ X.toInt < (s.1 5 b).toInt) → Ok (fun (q : Int32 × gSt) => ((q.1 = 0 ∧ q.2 = u) ∨ q.1 = 1) ∧ Kc σ q.2 ∧ RI N τ src f0 (a + 1) 0 (q.2.1 5)) (self 1 (v + 1) (g_sa s 5 (upd (s.1 5) b X))) := fun h => go 1 _ (Or.inr rfl) (hKs.sa (by unfold ck; decide)) (hI.put hT hE b3 c1 eX h hF)
          by_cases c3 : s.1 5 b = -1
          · exact okt c3 (put (Or.inl c3))
          · refine okf c3 ?_
            by_cases c4 : s.1 5 b ≤ X
            · refine okt c4 (go w s hw hKs (hI.next (fun q hq _ hs => ?_)))
              rw [sd_one hs b3]
              rw [tle, eX] at c4
              have := hF hq
              exact ⟨c3, by omega⟩
            · refine okf c4 (put (Or.inr ?_))
              rw [tle] at c4
              omega
        · refine okf c2 (go w s hw hKs (hI.next (fun q _ hE hs => ?_)))
          rw [sd_one hs b3] at hE
          exact absurd ((forb_at hM b1 b144).mpr (hE.2.resolve_left (fun e => e rfl))) c2
/-- a round makes one more final, if some is not -/
theorem RI.more {N : Nat} {τ : gSt} {src : Nat} {f0 f : Nat → Int32} (h : RI N τ src f0 144 0 f) (h0 : MapJ τ src f0) (hT : InvT τ) (hN : 1000000000000000000000 < N) (hs : src < 144) : ∀ B v, v < 144 → dC N τ 0 src v ≠ -1 → ¬ FN N τ src f0 v → (dC N τ 0 src v).toInt.toNat < B → ∃ v', v' < 144 ∧ ¬ FN N τ src f0 v' ∧ FN N τ src f v' := by
  intro B
  induction B with
  | zero => intro v _ _ _ h; omega
  | succ B ih =>
    intro v hv hd hn hB
    have S := dC_flat (N := N) hT hN hs
    have vs : v ≠ src := fun e => hn ⟨⟨hv, hd⟩, by rw [e, h0.1.1]; decide, by rw [e, h0.1.1]; exact (dC_self hT hN hs).symm⟩
    obtain ⟨n, hr⟩ := S.2.2.2.1 v ⟨hv, hd⟩
    cases n with
    | zero => exact absurd hr.1 vs
    | succ n =>
      obtain ⟨a, C', K', r1, r2, r3, r4⟩ := hr
      obtain ⟨-, -, a144, -, -⟩ := nb_in hT r2.1
      obtain ⟨⟨-, fa⟩, la⟩ := _root_.Jvm.Pilot.CSpurlineLaw_law_r9100_9c6fe0.low S n a _ _ r1
      have st := (S.2.2.2.2 a v r2 ⟨a144, fa⟩).2
      obtain ⟨w1, w2, w3, w4, w5⟩ := wT_in hT a v
      have da : 0 ≤ (dC N τ 0 src a).toInt := by
        rcases dC_ok (z := 0) (v := a) hT hN hs a144 with q | q
        · exact absurd q.1 fa
        · exact q.1.1
      have la2 : (dC N τ 0 src a).toInt < C' ∨ ((dC N τ 0 src a).toInt = C' ∧ (0 : Int) ≤ K') := la
      have st2 : (dC N τ 0 src v).toInt < (dC N τ 0 src a).toInt + wT τ a v ∨ ((dC N τ 0 src v).toInt = (dC N τ 0 src a).toInt + wT τ a v ∧ (0 : Int) ≤ 0 + 0) := st
      have r3' : (dC N τ 0 src v).toInt = C' + wT τ a v := r3
      have ev : (dC N τ 0 src v).toInt = (dC N τ 0 src a).toInt + wT τ a v := by omega
      by_cases c : FN N τ src f0 a
      · obtain ⟨g1, g2⟩ := h.2.2 a v c r2 (Or.inl a144)
        have := (h.1.low hT hN hs hv g1).2
        exact ⟨v, hv, hn, ⟨hv, hd⟩, g1, teq.mpr (by omega)⟩
      · exact ih a a144 fa c (by omega)
theorem byCells_c {σ τ : gSt} {N src : Nat} {x1 : Int32} (hR : Rel σ τ) (hN : 1000000000000000000000 < N) (hx : x1.toInt = src) (hs : onK τ src) : Ok (fun s => Kc σ s ∧ ∀ v, v < 144 → s.1 5 v = dC N τ 0 src v) (f_X6_searchByCells N σ x1) := by
  have hT := hR.2.1
  have s144 := onK_lt hT hs
  have z0 : (0 : Int32) ≠ -1 := by decide
  have eB : f_X6_begin σ x1 = g_sa (g_sa (gfill (gfill σ 5 (-1)) 6 (-1)) 5 (upd ((gfill (gfill σ 5 (-1)) 6 (-1)).1 5) src 0)) 6 (upd ((gfill (gfill σ 5 (-1)) 6 (-1)).1 6) src 0) := by
    unfold f_X6_begin
    rw [gput_in (r := 5) (by omega) (by rw [len144c.1]; omega), gput_in (r := 6) (by omega) (by rw [len144c.2.1]; omega), hx]
    rfl
  unfold f_X6_searchByCells
  rw [eB]
  generalize hB : g_sa (g_sa (gfill (gfill σ 5 (-1)) 6 (-1)) 5 (upd ((gfill (gfill σ 5 (-1)) 6 (-1)).1 5) src 0)) 6 (upd ((gfill (gfill σ 5 (-1)) 6 (-1)).1 6) src 0) = sB
  have B5 : sB.1 5 = upd (fun j => if j < gLen 5 then (-1) else σ.1 5 j) src 0 := by rw [← hB]; rfl
  have BK : Kc σ sB := by
    rw [← hB, gfill_eq, gfill_eq]
    exact (((Kc.rf.sa (by unfold ck; decide)).sa (by unfold ck; decide)).sa (by unfold ck; decide)).sa (by unfold ck; decide)
  have b5s : sB.1 5 src = 0 := by rw [B5, upd_at, if_pos rfl]
  have b5o : ∀ v, v < 144 → v ≠ src → sB.1 5 v = -1 := fun v h1 h2 => by
    rw [B5, upd_at, if_neg h2]
    exact if_pos (by rw [len144c.1]; exact h1)
  have hJ0 : MapJ τ src (sB.1 5) := by
    refine ⟨MapI.start b5s rfl b5o z0, fun v hv hf => ?_⟩
    by_cases e : v = src
    · rw [e]; exact hs
    · exact absurd (b5o v hv e) hf
  have self0 : ∀ f, MapJ τ src f → FN N τ src f src := fun f h => ⟨⟨s144, by rw [dC_self hT hN s144]; exact z0⟩, by rw [h.1.1]; exact z0, by rw [h.1.1]; exact (dC_self hT hN s144).symm⟩
  refine gLoop3_ok (fun m (w v : Int32) s => ∃ r : Nat, r ≤ 144 ∧ (m : Int) = 144 - r ∧ v.toInt = r ∧ Kc σ s ∧ MapJ τ src (s.1 5) ∧ ((∀ k, k < 144 → dC N τ 0 src k ≠ -1 → FN N τ src (s.1 5) k) ∨ (w ≠ 0 ∧ r + 1 ≤ cnt (FN N τ src (s.1 5)) 144))) ?_ N 144 1 0 sB (by omega) ⟨0, by omega, by omega, rfl, BK, hJ0, Or.inr ⟨one_ne, cnt_ne s144 (self0 _ hJ0)⟩⟩
  intro m w v s self ⟨r, hr, hm, hv, hK, hJ, hF⟩ ih
  have fin : (∀ k, k < 144 → dC N τ 0 src k ≠ -1 → FN N τ src (s.1 5) k) → Ok (fun s => Kc σ s ∧ ∀ v, v < 144 → s.1 5 v = dC N τ 0 src v) (some s) := fun h => Ok.some ⟨hK, fun v hv => by
    by_cases c : dC N τ 0 src v = -1
    · rw [c]
      exact Classical.byContradiction (fun h2 => (hJ.low hT hN s144 hv h2).1 c)
    · exact (h v hv c).2.2⟩
  by_cases c : 144 ≤ v
  · refine okt c (fin (hF.elim id (fun h => ?_)))
    rw [tle, tl144, hv] at c
    have := cnt_le (p := FN N τ src (s.1 5)) 144
    omega
  · refine okf c ?_
    rw [tle, tl144, hv] at c
    by_cases c2 : w = 0
    · exact okt c2 (fin (hF.elim id (fun h => absurd c2 h.1)))
    · refine okf c2 ?_
      have e1 := inc1 (v := v) (n := 144) (by omega) (by omega)
      refine gLoop3_ok (fun m2 (w2 v4 : Int32) u => ∃ a : Nat, a ≤ 144 ∧ (m2 : Int) = 144 - a ∧ v4.toInt = a ∧ ((w2 = 0 ∧ u = s) ∨ w2 = 1) ∧ Kc σ u ∧ RI N τ src (s.1 5) a 0 (u.1 5)) ?_ N 144 0 0 s (by omega) ⟨0, by omega, by omega, rfl, Or.inl ⟨rfl, rfl⟩, hK, hJ, fun v _ h => ⟨h, Int.le_refl _⟩, fun k v _ _ h => by rcases h with h | ⟨_, _, h, _⟩ <;> omega⟩
      intro m2 w2 v4 u self2 ⟨a, ha, hm2, h4, hw2, hKu, hI⟩ ih2
      by_cases c3 : 144 ≤ v4
      · refine okt c3 ?_
        rw [tle, tl144, h4] at c3
        rw [show a = 144 by omega] at hI
        refine ih (m - 1) w2 (v + 1) u (by omega) ⟨r + 1, by omega, by omega, by omega, hKu, hI.1, ?_⟩
        have keep : ∀ k, FN N τ src (s.1 5) k → FN N τ src (u.1 5) k := fun k hk => ⟨hk.1, hI.fin hT hN s144 hk⟩
        by_cases c4 : ∀ k, k < 144 → dC N τ 0 src k ≠ -1 → FN N τ src (s.1 5) k
        · exact Or.inl (fun k h1 h2 => keep k (c4 k h1 h2))
        · have ⟨k, hk⟩ : ∃ k, ¬ (k < 144 → dC N τ 0 src k ≠ -1 → FN N τ src (s.1 5) k) := Classical.byContradiction (fun h => c4 (fun k => Classical.byContradiction (fun h2 => h ⟨k, h2⟩)))
          have k1 : k < 144 := Classical.byContradiction (fun h => hk (fun h2 => absurd h2 h))
          have k2 : dC N τ 0 src k ≠ -1 := fun h => hk (fun _ h2 => absurd h h2)
          have k3 : ¬ FN N τ src (s.1 5) k := fun h => hk (fun _ _ => h)
          obtain ⟨v', q1, q2, q3⟩ := hI.more hJ hT hN s144 _ k k1 k2 k3 (Nat.lt_succ_self _)
          rcases hw2 with ⟨_, e⟩ | e
          · subst e
            exact absurd q3 q2
          · have hc := cnt_more keep q2 q3 144
            rw [if_pos q1] at hc
            have := (hF.resolve_left c4).2
            exact Or.inr ⟨by rw [e]; exact one_ne, by omega⟩
      · refine okf c3 ?_
        rw [tle, tl144, h4] at c3
        have e4 := inc1 (v := v4) (n := 144) (by omega) (by omega)
        refine (cheapen_c hR hN s144 hKu h4 (by omega) hI).bind (fun q hq => ?_)
        obtain ⟨p1, p2, p3⟩ := hq
        refine flagJ (fun w' hw' => ih2 (m2 - 1) w' (v4 + 1) q.2 (by omega) ⟨a + 1, by omega, by omega, by omega, ?_, p2, p3⟩)
        rcases hw' with ⟨e1, e2, e3⟩ | ⟨e1, _⟩
        · refine Or.inl ⟨e1, ?_⟩
          rcases hw2 with ⟨_, e⟩ | e
          · rcases p1 with ⟨_, e5⟩ | e5
            · rw [e5, e]
            · exact absurd (e5.symm.trans e2) one_ne
          · exact absurd (e.symm.trans e3) one_ne
        · exact Or.inr e1
theorem owe_costByCells {N : Nat} (hN : 1000000000000000000000 < N) : Owe_costByCells N := by
  intro σ τ x1 x2 hR
  have hI := hR.2
  unfold f_X9_costByCells f_X10_costByCells f_X10_cost
  simp only [gJoin1, gJoin0]
  by_cases h1 : isC τ x1
  · rw [needC_yes hR.1 h1, if_pos rfl, ctl_yes hI.2.1 h1, if_neg one_ne]
    by_cases h2 : isC τ x2
    · rw [needC_yes hR.1 h2, if_pos rfl, ctl_yes hI.2.1 h2, if_neg one_ne, asked1, if_neg one_ne]
      have hR6 := hR.six (x := 0)
      obtain ⟨a1, a2, a3⟩ := cl_in hR6.2 h1
      obtain ⟨b1, b2, b3⟩ := cl_in hR6.2 h2
      obtain ⟨s, e1, hK, hs⟩ := byCells_c hR6 hN a3 a1
      obtain ⟨⟨b, t⟩, e2, hb, hM⟩ := costOf_m hR6.2 Km.rf hN h1 h2
      rw [cl_c hR6 h1, e1, Option.bind_some, e2, Option.bind_some, Option.bind_some]
      refine Agr.yes (hR6.keep hK hM.1) (Or.inl rfl) (six0 hM.1) ?_
      show b = f_X6_costTo s (f_X1_cellOf s x2)
      unfold f_X6_costTo
      rw [cl_c (hR6.keep hK Km.rf) h2, gget_in (by omega) (by rw [len144c.1]; omega)]
      exact hb.trans (hs _ b2).symm
    · rw [needC_no hR.1 h2, if_neg onen, ctl_no hI.2.1 h2, if_pos rfl, asked0, if_pos rfl, Option.bind_some]
      exact Agr.no hR (by decide) (Or.inr rfl) rfl
  · rw [needC_no hR.1 h1, if_neg onen, ctl_no hI.2.1 h1, if_pos rfl, asked0, if_pos rfl, Option.bind_some]
    exact Agr.no hR (by decide) (Or.inr rfl) rfl
