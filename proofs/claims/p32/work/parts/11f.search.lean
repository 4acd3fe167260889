/-! ===== pure: the class searches ===== -/
/-- a search changes its own rows and number alone -/
def Ks (s s' : gSt) : Prop := (∀ r, r < 5 ∨ 7 < r → s'.1 r = s.1 r) ∧ ∀ k, k ≠ 3 → s'.2 k = s.2 k
theorem Ks.rf {s : gSt} : Ks s s := ⟨fun _ _ => rfl, fun _ _ => rfl⟩
theorem Ks.trans {a b c : gSt} (h : Ks a b) (g : Ks b c) : Ks a c := ⟨fun r hr => (g.1 r hr).trans (h.1 r hr), fun k hk => (g.2 k hk).trans (h.2 k hk)⟩
theorem Ks.sa {s u : gSt} {r : Nat} {f : Nat → Int32} (h : Ks s u) (hr : ¬ (r < 5 ∨ 7 < r)) : Ks s (g_sa u r f) := ⟨fun j hj => by rw [sa_1, if_neg (fun (e : j = r) => hr (e ▸ hj))]; exact h.1 j hj, h.2⟩
theorem Ks.sf {s u : gSt} {k : Nat} {x : Int32} (h : Ks s u) (hk : ¬ k ≠ 3) : Ks s (g_sf u k x) := ⟨h.1, fun j hj => by rw [sf_2, if_neg (fun (e : j = k) => hk (e ▸ hj))]; exact h.2 j hj⟩
theorem Ks.kc {s s' : gSt} (h : Ks s s') : Kc s s' := ⟨fun r hr => h.1 r (by unfold ck at hr; omega), fun k hk => h.2 k (by unfold cf at hk; omega)⟩
theorem len144c : gLen 5 = 144 ∧ gLen 6 = 144 ∧ gLen 7 = 144 := ⟨rfl, rfl, rfl⟩
theorem nearest_c {s : gSt} {N m : Nat} (hN : 200 < N) (hm : (s.2 3).toInt = m) (h1 : 1 ≤ m) (hm2 : m ≤ 144) (hq : ∀ j, j < m → 0 ≤ (s.1 7 j).toInt ∧ (s.1 7 j).toInt < 144) : Ok (fun (r : Int32 × gSt) => ∃ b, b < m ∧ (∀ j, j < m → (s.1 5 (s.1 7 b).toInt.toNat).toInt ≤ (s.1 5 (s.1 7 j).toInt.toNat).toInt) ∧ r = (s.1 7 b, g_sa (g_sf s 3 (s.2 3 - 1)) 7 (upd (s.1 7) b (s.1 7 (m - 1))))) (f_X6_takeNearest N s) := by
  have g7 : ∀ (v : Int32) (j : Nat), v.toInt = j → j < 144 → gget s 7 v = s.1 7 j := fun v j h1 h2 => by
    rw [gget_in (by omega) (by rw [len144c.2.2]; omega), h1]
    rfl
  have g5 : ∀ j, j < m → gget s 5 (s.1 7 j) = s.1 5 (s.1 7 j).toInt.toNat := fun j hj => by
    obtain ⟨a, b⟩ := hq j hj
    rw [gget_in a (by rw [len144c.1]; omega)]
  unfold f_X6_takeNearest
  refine gLoop2_ok (fun k (v1 v2 : Int32) => ∃ b i : Nat, b < m ∧ i ≤ m ∧ (k : Int) = 144 - i ∧ v1.toInt = b ∧ v2.toInt = i ∧ ∀ j, j < i → (s.1 5 (s.1 7 b).toInt.toNat).toInt ≤ (s.1 5 (s.1 7 j).toInt.toNat).toInt) ?_ N 143 0 1 (by omega) ⟨0, 1, by omega, h1, by omega, rfl, rfl, fun j hj => by rw [show j = 0 by omega]; exact Int.le_refl _⟩
  intro k v1 v2 self ⟨b, i, hb, hi, hk, e1, e2, hmin⟩ ih
  by_cases c : s.2 3 ≤ v2
  · refine okt c (Ok.some ⟨b, hb, ?_, ?_⟩)
    · rw [tle, hm, e2] at c
      rw [show m = i by omega]
      exact hmin
    · have em : (s.2 3 - 1).toInt = (m - 1 : Nat) := by rw [tsub (by rw [hm, tl1]; omega), hm, tl1]; omega
      have f3 : (g_sf s 3 (s.2 3 - 1)).2 3 = s.2 3 - 1 := by rw [sf_2, if_pos rfl]
      rw [f3, g7 v1 b e1 (by omega), gput_in (by omega) (by rw [len144c.2.2]; omega), gget_in (by omega) (by rw [len144c.2.2]; omega), em, e1]
      rfl
  · refine okf c (okz ?_)
    rw [tle, hm, e2] at c
    have e3 := inc1 (v := v2) (n := 144) (by omega) (by omega)
    rw [g7 v1 b e1 (by omega), g7 v2 i e2 (by omega), g5 b hb, g5 i (by omega)]
    by_cases c2 : s.1 5 (s.1 7 b).toInt.toNat ≤ s.1 5 (s.1 7 i).toInt.toNat
    · refine okt c2 (ih (k - 1) v1 (v2 + 1) (by omega) ⟨b, i + 1, hb, by omega, by omega, e1, by omega, fun j hj => ?_⟩)
      rw [tle] at c2
      by_cases e : j = i
      · rw [e]; exact c2
      · exact hmin j (by omega)
    · refine okf c2 (ih (k - 1) v2 (v2 + 1) (by omega) ⟨i, i + 1, by omega, by omega, by omega, e2, by omega, fun j hj => ?_⟩)
      rw [tle] at c2
      by_cases e : j = i
      · rw [e]; exact Int.le_refl _
      · have := hmin j (by omega)
        omega
/-- what an offer makes of the state -/
def sPut (s : gSt) (v : Nat) (x y : Int32) : gSt := g_sa (g_sa s 5 (upd (s.1 5) v x)) 6 (upd (s.1 6) v y)
theorem offer_c {s : gSt} {b x y : Int32} {v m : Nat} (hb : b.toInt = v) (hv : v < 144) (hm : (s.2 3).toInt = m) : (s.1 5 v = -1 → m < 144 → f_X6_offer s b x y = sPut (g_sf (g_sa s 7 (upd (s.1 7) m b)) 3 (s.2 3 + 1)) v x y) ∧ (s.1 5 v ≠ -1 → (x.toInt < (s.1 5 v).toInt ∨ (x.toInt = (s.1 5 v).toInt ∧ y.toInt < (s.1 6 v).toInt)) → f_X6_offer s b x y = sPut s v x y) ∧ (s.1 5 v ≠ -1 → ¬ (x.toInt < (s.1 5 v).toInt ∨ (x.toInt = (s.1 5 v).toInt ∧ y.toInt < (s.1 6 v).toInt)) → f_X6_offer s b x y = s) := by
  have g5 : gget s 5 b = s.1 5 v := by
    rw [gget_in (by omega) (by rw [len144c.1]; omega), hb]
    rfl
  have g6 : gget s 6 b = s.1 6 v := by
    rw [gget_in (by omega) (by rw [len144c.2.1]; omega), hb]
    rfl
  have p : ∀ s' : gSt, gput (gput s' 5 b x) 6 b y = sPut s' v x y := fun s' => by
    rw [gput_in (r := 5) (by omega) (by rw [len144c.1]; omega), gput_in (r := 6) (by omega) (by rw [len144c.2.1]; omega), hb]
    rfl
  unfold f_X6_offer
  rw [g5]
  refine ⟨fun h hm2 => ?_, fun h hl => ?_, fun h hl => ?_⟩
  · refine (if_pos h).trans ?_
    refine (if_pos h).trans ?_
    rw [p, gput_in (r := 7) (by omega) (by rw [len144c.2.2]; omega), hm]
    rfl
  · refine (if_neg h).trans ?_
    refine (if_neg h).trans ?_
    by_cases c : x < s.1 5 v
    · rw [if_pos c]
      exact p s
    · rw [if_neg c]
      rw [tlt] at c
      have c2 := hl.resolve_left c
      rw [if_pos (teq.mpr c2.1), g6, if_neg (by rw [tle]; omega)]
      exact p s
  · refine (if_neg h).trans ?_
    refine (if_neg h).trans ?_
    rw [if_neg (by rw [tlt]; omega)]
    by_cases c : x = s.1 5 v
    · rw [if_pos c, g6, if_pos (by rw [teq] at c; rw [tle]; omega)]
    · rw [if_neg c]
theorem Ks.put {σ s : gSt} {v : Nat} {x y : Int32} (h : Ks σ s) : Ks σ (sPut s v x y) := (h.sa (by decide)).sa (by decide)
/-- the state of a search -/
def DS (σ τ : gSt) (all : Prop) (src : Nat) (T : Nat → Prop) (Q : Nat → Nat → Prop) (n : Nat) (s : gSt) : Prop := Ks σ s ∧ ∃ m : Nat, (s.2 3).toInt = m ∧ DI τ all src (s.1 5) (s.1 6) (s.1 7) T Q n m
theorem goOn_c {σ τ s : gSt} {N k src n : Nat} {x1 x2 : Int32} {T : Nat → Prop} (hR : Rel σ τ) (hN : 200 < N) (h : DS σ τ (x2 ≠ 0) src T (fun t _ => t ≠ k) n s) (hx : x1.toInt = k) (hk : onK τ k) (hTk : T k) (hkm : ∀ t, T t → (s.1 5 t).toInt ≤ (s.1 5 k).toInt) : Ok (fun s' => DS σ τ (x2 ≠ 0) src T (fun _ _ => True) n s') (f_X6_goOn N s x1 x2) := by
  have hT := hR.2.1
  have hk144 := onK_lt hT hk
  unfold f_X6_goOn
  refine gLoop2_ok (fun m (v : Int32) u => ∃ i : Nat, i ≤ 4 ∧ (m : Int) = 4 - i ∧ v.toInt = i ∧ DS σ τ (x2 ≠ 0) src T (fun t a => t ≠ k ∨ ∃ i', i' < i ∧ sd k a i') n u ∧ (∀ t, T t → (u.1 5 t).toInt ≤ (u.1 5 k).toInt)) ?_ N 4 0 s (by omega) ⟨0, by omega, by omega, rfl, ⟨h.1, by
    obtain ⟨m, h1, h2⟩ := h.2
    exact ⟨m, h1, h2.weak (fun t v _ hq _ => hq.elim id (fun ⟨i', g, _⟩ => by omega))⟩⟩, hkm⟩
  intro m v u self ⟨i, hi, hm, hv, hD, hle⟩ ih
  obtain ⟨hK, mm, h3, hDI⟩ := hD
  by_cases c : 4 ≤ v
  · refine okt c (Ok.some ⟨hK, mm, h3, hDI.weak (fun t a ht _ he => ?_)⟩)
    rw [tle, tl4, hv] at c
    by_cases e : t = k
    · subst e
      obtain ⟨i', g1, g2⟩ := sd_ex he.1
      exact Or.inr ⟨i', by omega, g2⟩
    · exact Or.inl e
  · refine okf c (okz ?_)
    rw [tle, tl4, hv] at c
    have hM := mc_of hR hK.kc
    have e1 := inc1 (v := v) (n := 4) (by omega) (by omega)
    have go : ∀ u', DS σ τ (x2 ≠ 0) src T (fun t a => t ≠ k ∨ ∃ i', i' < i + 1 ∧ sd k a i') n u' → (∀ t, T t → (u'.1 5 t).toInt ≤ (u'.1 5 k).toInt) → Ok (fun s' => DS σ τ (x2 ≠ 0) src T (fun _ _ => True) n s') (self (v + 1) u') := fun u' h1 h2 => ih (m - 1) (v + 1) u' (by omega) ⟨i + 1, by omega, by omega, by omega, h1, h2⟩
    have skip : (∀ a, eT τ (x2 ≠ 0) k a → ¬ sd k a i) → Ok (fun s' => DS σ τ (x2 ≠ 0) src T (fun _ _ => True) n s') (self (v + 1) u) := fun hn => go u ⟨hK, mm, h3, hDI.weak (fun t a ht hq he => by
      rcases hq with hq | ⟨i', g1, g2⟩
      · exact Or.inl hq
      · by_cases et : t = k
        · subst et
          by_cases e : i' = i
          · subst e
            exact absurd g2 (hn a he)
          · exact Or.inr ⟨i', by omega, g2⟩
        · exact Or.inl et)⟩ hle
    rcases beyond_c hT hM hx hk hv (by omega) with ⟨b1, b2⟩ | ⟨a, b1, b2, b3⟩
    · exact okt b1 (skip (fun a he => b2 a he.1))
    · have bm : f_X8_beyond u x1 v ≠ -1 := fun e => by rw [e, tlm1] at b1; omega
      refine okf bm (ok0 ?_)
      obtain ⟨-, na, -, a144, ka⟩ := nb_in hT b2
      have offer : (x2 ≠ 0 ∨ τ.1 1 a ≠ 4) → Ok (fun s' => DS σ τ (x2 ≠ 0) src T (fun _ _ => True) n s') (self (v + 1) (f_X6_offer u (f_X8_beyond u x1 v) (((gget u 5 x1) + (f_X8_paceCost u (f_X8_beyond u x1 v))) + (4 * (f_X8_climbBetween u x1 (f_X8_beyond u x1 v)))) ((gget u 6 x1) + (f_X8_climbBetween u x1 (f_X8_beyond u x1 v))))) := by
        intro hall
        have hE : eT τ (x2 ≠ 0) k a := ⟨b2, hall⟩
        obtain ⟨w1, w2, w3, w4, w5⟩ := wT_in hT k a
        have g5 : gget u 5 x1 = u.1 5 k := by
          rw [gget_in (by omega) (by rw [len144c.1]; omega), hx]
          rfl
        have g6 : gget u 6 x1 = u.1 6 k := by
          rw [gget_in (by omega) (by rw [len144c.2.1]; omega), hx]
          rfl
        have fk := hDI.2.2.2.2.1 k hTk
        have ik := hDI.1.in_ hk144 fk.2
        have eX := cost_at (c := u.1 5 k) hT hM hx hk144 b1 a144 (by omega)
        have er := rise_at hT hM hx hk144 b1 a144
        have eY : (u.1 6 k + f_X8_climbBetween u x1 (f_X8_beyond u x1 v)).toInt = (u.1 6 k).toInt + uT τ k a := by rw [tadd (by rw [er]; omega), er]
        rw [g5, g6]
        generalize hX : ((u.1 5 k) + (f_X8_paceCost u (f_X8_beyond u x1 v))) + (4 * (f_X8_climbBetween u x1 (f_X8_beyond u x1 v))) = X at eX
        generalize hY : (u.1 6 k) + (f_X8_climbBetween u x1 (f_X8_beyond u x1 v)) = Y at eY
        obtain ⟨o1, o2, o3⟩ := offer_c (x := X) (y := Y) b1 a144 h3
        have wk : ∀ (f g q : Nat → Int32) (m' : Nat), DI τ (x2 ≠ 0) src f g q T (fun t b => (t ≠ k ∨ ∃ i', i' < i ∧ sd k b i') ∨ (t = k ∧ b = a)) n m' → DI τ (x2 ≠ 0) src f g q T (fun t b => t ≠ k ∨ ∃ i', i' < i + 1 ∧ sd k b i') n m' := fun f g q m' h => h.weak (fun t b _ hq _ => by
          rcases hq with hq | ⟨i', q1, q2⟩
          · exact Or.inl (Or.inl hq)
          · by_cases e : i' = i
            · subst e
              by_cases et : t = k
              · exact Or.inr ⟨et, sd_one q2 b3⟩
              · exact Or.inl (Or.inl et)
            · exact Or.inl (Or.inr ⟨i', by omega, q2⟩))
        by_cases c1 : u.1 5 a = -1
        · obtain ⟨n1, n2⟩ := hDI.new (b := f_X8_beyond u x1 v) hT hTk hle hE c1 b1 eX eY
          rw [o1 c1 n2]
          have e3 : (u.2 3 + 1).toInt = (mm + 1 : Nat) := by rw [inc1 (n := 144) (by omega) (by omega), h3]; rfl
          refine go _ ⟨(((hK.sa (by decide)).sf (by decide)).put), mm + 1, ?_, wk _ _ _ _ n1⟩ (fun t ht => ?_)
          · show ((g_sf (g_sa u 7 (upd (u.1 7) mm (f_X8_beyond u x1 v))) 3 (u.2 3 + 1)).2 3).toInt = ((mm + 1 : Nat) : Int)
            rw [sf_2, if_pos rfl]
            exact e3
          · show (upd (u.1 5) a X t).toInt ≤ (upd (u.1 5) a X k).toInt
            rw [upd_at, upd_at, if_neg (fun (e : t = a) => (hDI.2.2.2.2.1 t ht).2 (e ▸ c1)), if_neg ka]
            exact hle t ht
        · by_cases c2 : X.toInt < (u.1 5 a).toInt ∨ (X.toInt = (u.1 5 a).toInt ∧ Y.toInt < (u.1 6 a).toInt)
          · have n1 := hDI.less hT hTk hle hE c1 eX eY c2
            rw [o2 c1 c2]
            refine go _ ⟨hK.put, mm, h3, wk _ _ _ _ n1⟩ (fun t ht => ?_)
            show (upd (u.1 5) a X t).toInt ≤ (upd (u.1 5) a X k).toInt
            have hta : t ≠ a := fun e => by
              have := hle t ht
              rw [e] at this
              omega
            rw [upd_at, upd_at, if_neg hta, if_neg ka]
            exact hle t ht
          · rw [o3 c1 c2]
            exact go _ ⟨hK, mm, h3, wk _ _ _ _ (hDI.stay c1 eX eY c2)⟩ hle
      by_cases c2 : x2 = 0
      · refine okt c2 ?_
        by_cases c3 : f_X8_isForbidden u (f_X8_beyond u x1 v) = 0
        · exact okt c3 (offer (Or.inr ((forb_at hM b1 a144).mp c3)))
        · refine okf c3 (skip (fun b he hs => c3 ((forb_at hM b1 a144).mpr ?_)))
          rw [sd_one b3 hs]
          exact he.2.resolve_left (fun g => g c2)
      · exact okf c2 (offer (Or.inl c2))
theorem search_c {σ τ : gSt} {N src : Nat} {x1 x2 : Int32} (hR : Rel σ τ) (hN : 200 < N) (hx : x1.toInt = src) (hs : onK τ src) : Ok (fun s => Ks σ s ∧ MapI (eT τ (x2 ≠ 0)) (wT τ) (uT τ) src (-1) (s.1 5) (s.1 6) ∧ (∀ v, v < 144 → s.1 5 v = -1 → s.1 6 v = -1) ∧ Best (eT τ (x2 ≠ 0)) (wT τ) (uT τ) src (fun v => v < 144 ∧ s.1 5 v ≠ -1) (fun v => (s.1 5 v).toInt) (fun v => (s.1 6 v).toInt)) (f_X6_search N σ x1 x2) := by
  have hT := hR.2.1
  have s144 := onK_lt hT hs
  have z0 : (0 : Int32) ≠ -1 := by decide
  have eB : g_sf (gput (f_X6_begin σ x1) 7 0 x1) 3 1 = g_sf (g_sa (g_sa (g_sa (gfill (gfill σ 5 (-1)) 6 (-1)) 5 (upd ((gfill (gfill σ 5 (-1)) 6 (-1)).1 5) src 0)) 6 (upd ((gfill (gfill σ 5 (-1)) 6 (-1)).1 6) src 0)) 7 (upd (σ.1 7) 0 x1)) 3 1 := by
    unfold f_X6_begin
    rw [gput_in (r := 5) (by omega) (by rw [len144c.1]; omega), gput_in (r := 6) (by omega) (by rw [len144c.2.1]; omega), gput_in (r := 7) (by rw [tl0]; omega) (by rw [tl0, len144c.2.2]; omega), hx]
    rfl
  unfold f_X6_search
  rw [eB]
  generalize hB : g_sf (g_sa (g_sa (g_sa (gfill (gfill σ 5 (-1)) 6 (-1)) 5 (upd ((gfill (gfill σ 5 (-1)) 6 (-1)).1 5) src 0)) 6 (upd ((gfill (gfill σ 5 (-1)) 6 (-1)).1 6) src 0)) 7 (upd (σ.1 7) 0 x1)) 3 1 = sB
  have B5 : sB.1 5 = upd (fun j => if j < gLen 5 then (-1) else σ.1 5 j) src 0 := by rw [← hB]; rfl
  have B6 : sB.1 6 = upd (fun j => if j < gLen 6 then (-1) else σ.1 6 j) src 0 := by rw [← hB]; rfl
  have B7 : sB.1 7 = upd (σ.1 7) 0 x1 := by rw [← hB]; rfl
  have B3 : sB.2 3 = 1 := by rw [← hB]; rfl
  have BK : Ks σ sB := by
    rw [← hB, gfill_eq, gfill_eq]
    exact (((((Ks.rf.sa (by decide)).sa (by decide)).sa (by decide)).sa (by decide)).sa (by decide)).sf (by decide)
  have b5s : sB.1 5 src = 0 := by rw [B5, upd_at, if_pos rfl]
  have b6s : sB.1 6 src = 0 := by rw [B6, upd_at, if_pos rfl]
  have b5o : ∀ v, v < 144 → v ≠ src → sB.1 5 v = -1 := fun v h1 h2 => by
    rw [B5, upd_at, if_neg h2]
    exact if_pos (by rw [len144c.1]; exact h1)
  have b6o : ∀ v, v < 144 → v ≠ src → sB.1 6 v = -1 := fun v h1 h2 => by
    rw [B6, upd_at, if_neg h2]
    exact if_pos (by rw [len144c.2.1]; exact h1)
  have b70 : sB.1 7 0 = x1 := by rw [B7, upd_at, if_pos rfl]
  have hD0 : DI τ (x2 ≠ 0) src (sB.1 5) (sB.1 6) (sB.1 7) (fun _ => False) (fun _ _ => True) 0 1 := by
    refine ⟨MapI.start b5s b6s b5o z0, fun j hj => ?_, fun i j h1 h2 => by omega, fun v hv hf => ?_, fun t ht => ht.elim, fun t ht => ht.elim, ?_, fun v hv hf => ?_, fun v hv hf => ?_, fun t v ht => ht.elim⟩
    · rw [show j = 0 by omega, b70, hx]
      refine ⟨by omega, by omega, ?_, fun h => h⟩
      show sB.1 5 src ≠ -1
      rw [b5s]
      exact z0
    · refine Or.inr ⟨0, by omega, ?_⟩
      by_cases e : v = src
      · rw [b70, hx, e]
      · exact absurd (b5o v hv e) hf
    · have h0 : cnt (fun _ => False) 144 = 0 := cnt_none 144 (fun _ _ h => h)
      have := cnt_add (p := fun _ => False) (q := fun v => v = src) (r := src) (fun h => h) (fun v => ⟨fun h => Or.inr h, fun h => h.elim False.elim id⟩) 144
      rw [if_pos s144, h0] at this
      have h2 := cnt_congr (p := fun v => sB.1 5 v ≠ -1) (q := fun v => v = src) 144 (fun v hv => ⟨fun h => by
        by_cases e : v = src
        · exact e
        · exact absurd (b5o v hv e) h, fun h => by
        show sB.1 5 v ≠ -1
        rw [h, b5s]
        exact z0⟩)
      omega
    · by_cases e : v = src
      · rw [e, b5s] at hf
        exact absurd hf z0
      · exact b6o v hv e
    · by_cases e : v = src
      · rw [e]; exact hs
      · exact absurd (b5o v hv e) hf
  refine gLoop2_ok (fun m (v : Int32) u => ∃ n : Nat, n ≤ 144 ∧ (m : Int) = 144 - n ∧ v.toInt = n ∧ ∃ T, DS σ τ (x2 ≠ 0) src T (fun _ _ => True) n u) ?_ N 144 0 sB (by omega) ⟨0, by omega, by omega, rfl, fun _ => False, BK, 1, by rw [B3]; rfl, hD0⟩
  intro m v u self ⟨n, hn, hm, hv, T, hK, w, h3, hD⟩ ih
  have hle := cnt_le (p := fun v => u.1 5 v ≠ -1) 144
  have hcn := hD.2.2.2.2.2.2.1
  have fin : w = 0 → Ok (fun s => Ks σ s ∧ MapI (eT τ (x2 ≠ 0)) (wT τ) (uT τ) src (-1) (s.1 5) (s.1 6) ∧ (∀ v, v < 144 → s.1 5 v = -1 → s.1 6 v = -1) ∧ Best (eT τ (x2 ≠ 0)) (wT τ) (uT τ) src (fun v => v < 144 ∧ s.1 5 v ≠ -1) (fun v => (s.1 5 v).toInt) (fun v => (s.1 6 v).toInt)) (some u) := fun hw => by
    obtain ⟨d1, d2, d3, d4, d5, d6, d7, d8, d9, d10⟩ := hD
    refine Ok.some ⟨hK, d1, d8, d1.best z0 s144 (ew_T hT _) (fun a v he hf => ?_)⟩
    rcases d4 a (nb_in hT he.1).2.2.1 hf with h | ⟨j, h1, _⟩
    · exact d10 a v h trivial he
    · omega
  by_cases c : 144 ≤ v
  · refine okt c (fin ?_)
    rw [tle, tl144, hv] at c
    omega
  · refine okf c ?_
    rw [tle, tl144, hv] at c
    by_cases c2 : u.2 3 ≤ 0
    · refine okt c2 (fin ?_)
      rw [tle, h3, tl0] at c2
      omega
    · refine okf c2 ?_
      rw [tle, h3, tl0] at c2
      have e1 := inc1 (v := v) (n := 144) (by omega) (by omega)
      refine (nearest_c hN h3 (by omega) (by omega) (fun j hj => ⟨(hD.2.1 j hj).1, (hD.2.1 j hj).2.1⟩)).bind (fun r hr => ?_)
      obtain ⟨b, hb, hmin, rfl⟩ := hr
      obtain ⟨t1, t2, t3⟩ := hD.take hb hmin
      have em : (u.2 3 - 1).toInt = (w - 1 : Nat) := by rw [tsub (by rw [h3, tl1]; omega), h3, tl1]; omega
      have hb2 := hD.2.1 b hb
      refine (goOn_c (s := g_sa (g_sf u 3 (u.2 3 - 1)) 7 (upd (u.1 7) b (u.1 7 (w - 1)))) (k := (u.1 7 b).toInt.toNat) (n := n + 1) hR hN ⟨(hK.sf (by decide)).sa (by decide), w - 1, ?_, t1⟩ (by show (u.1 7 b).toInt = (((u.1 7 b).toInt.toNat : Nat) : Int); omega) t3 (Or.inr rfl) t2).bind (fun u' hu' => ?_)
      · show ((g_sf u 3 (u.2 3 - 1)).2 3).toInt = ((w - 1 : Nat) : Int)
        rw [sf_2, if_pos rfl]
        exact em
      · exact ih (m - 1) (v + 1) u' (by omega) ⟨n + 1, by omega, by omega, by omega, _, hu'⟩
