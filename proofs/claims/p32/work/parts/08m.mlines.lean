/-! ===== pure: the reference's lines ===== -/
def relab (M : Nat → Nat) (a b : Nat) : Nat → Nat := fun i => if M i = M b then M a else M i
/-- the reference's names of the lines stand in its array -/
def ML (τ : gSt) (lv : Int32) (M : Nat → Nat) (H : Nat → Int32) : Prop := ∀ k, k < 288 → (gapP τ lv k → H k = Int32.ofNat (M k) ∧ M k < 288) ∧ (¬ gapP τ lv k → H k = -1)
def MS (τ : gSt) (lv : Int32) (B : Nat → Int32) (M : Nat → Nat) (s : gSt) : Prop := Km τ s ∧ s.1 13 = B ∧ ML τ lv M (s.1 12)
theorem ofn_inj {a b : Nat} (ha : a < 288) (hb : b < 288) : Int32.ofNat a = Int32.ofNat b ↔ a = b := by
  rw [teq, tnat (by omega), tnat (by omega)]
  omega
theorem ofn_m1 {a : Nat} (ha : a < 288) : (-1 : Int32) ≠ Int32.ofNat a := by
  rw [Ne, teq, tnat (by omega), tlm1]
  omega
theorem joins_m {τ s : gSt} {N : Nat} {lv x1 x2 : Int32} {B : Nat → Int32} {M : Nat → Nat} {a b : Nat} (hN : 288 < N) (hS : MS τ lv B M s) (h1 : x1.toInt = a) (h2 : x2.toInt = b) (ha : gapP τ lv a) (hb : gapP τ lv b) : Ok (MS τ lv B (relab M a b)) (f_X10_joins N s x1 x2) := by
  have ha2 := gapP_lt ha
  have hb2 := gapP_lt hb
  obtain ⟨hK, hB, hM⟩ := hS
  unfold f_X10_joins
  rw [if_neg (c := x2 < 0 ∨ 288 ≤ x2.toNatClampNeg) (by rw [tlt, tl0, tcl, h2]; omega), if_neg (c := x1 < 0 ∨ 288 ≤ x1.toNatClampNeg) (by rw [tlt, tl0, tcl, h1]; omega)]
  have eb : g_ga s 12 x2 = Int32.ofNat (M b) := by rw [ga_at h2]; exact ((hM b hb2).1 hb).1
  have ea : g_ga s 12 x1 = Int32.ofNat (M a) := by rw [ga_at h1]; exact ((hM a ha2).1 ha).1
  have lb := ((hM b hb2).1 hb).2
  have la := ((hM a ha2).1 ha).2
  rw [eb, ea]
  refine gLoop2_ok (fun m v s' => (0 ≤ v.toInt ∧ v.toInt ≤ 288) ∧ (m : Int) = 288 - v.toInt ∧ Km τ s' ∧ s'.1 13 = B ∧ (∀ k : Nat, (k : Int) < v.toInt → s'.1 12 k = if s.1 12 k = Int32.ofNat (M b) then Int32.ofNat (M a) else s.1 12 k) ∧ (∀ k : Nat, v.toInt ≤ (k : Int) → s'.1 12 k = s.1 12 k)) ?_ N 288 0 s hN ⟨by rw [tl0]; omega, by rw [tl0]; rfl, hK, hB, fun k hk => by rw [tl0] at hk; omega, fun k _ => rfl⟩
  intro m v s' self ⟨hv, hm, hK', hB', hlo, hhi⟩ ih
  by_cases c : 288 ≤ v
  · rw [if_pos c]
    rw [tle, tl288] at c
    refine Ok.some ⟨hK', hB', fun k hk => ⟨fun hg => ?_, fun hg => ?_⟩⟩
    · rw [hlo k (by omega), ((hM k hk).1 hg).1]
      have lk := ((hM k hk).1 hg).2
      unfold relab
      by_cases e : M k = M b
      · rw [if_pos ((ofn_inj lk lb).mpr e), if_pos e]
        exact ⟨rfl, la⟩
      · rw [if_neg (fun h => e ((ofn_inj lk lb).mp h)), if_neg e]
        exact ⟨rfl, lk⟩
    · rw [hlo k (by omega), (hM k hk).2 hg, if_neg (ofn_m1 lb)]
  · rw [if_neg c]
    rw [tle, tl288] at c
    have gv : ¬ (v < 0 ∨ 288 ≤ v.toNatClampNeg) := by rw [tlt, tl0, tcl]; omega
    have e1 := inc1 (v := v) (n := 288) (by omega) (by omega)
    have ev : g_ga s' 12 v = s.1 12 v.toInt.toNat := by rw [ga_eq]; exact hhi _ (by omega)
    simp only [gJoin1, if_neg gv, ev]
    have go : ∀ z, z = (if s.1 12 v.toInt.toNat = Int32.ofNat (M b) then Int32.ofNat (M a) else s.1 12 v.toInt.toNat) → Ok (MS τ lv B (relab M a b)) (self (v + 1) (g_pa s' 12 v z)) := by
      intro z hz
      refine ih (m - 1) (v + 1) _ (by omega) ⟨by rw [e1]; omega, by rw [e1]; omega, hK'.pa (by decide), by rw [pa_1, if_neg (by decide)]; exact hB', fun k hk => ?_, fun k hk => ?_⟩
      · rw [e1] at hk
        rw [pa_1, if_pos rfl, upd_at]
        by_cases e : k = v.toInt.toNat
        · rw [if_pos e, e]; exact hz
        · rw [if_neg e]; exact hlo k (by omega)
      · rw [e1] at hk
        rw [pa_1, if_pos rfl, upd_at, if_neg (by omega)]
        exact hhi k (by omega)
    by_cases q : s.1 12 v.toInt.toNat = Int32.ofNat (M b)
    · rw [if_pos q]
      exact go _ (if_pos q).symm
    · rw [if_neg q]
      exact go _ (if_neg q).symm
/-- which lines a square joins, and how the reference names them then -/
def sqIn (τ : gSt) (k : Nat) : Prop := ((k % 12 : Nat) : Int) + 1 < (τ.2 0).toInt ∧ ((k / 12 : Nat) : Int) + 1 < (τ.2 1).toInt
/-- the two gaps at the first cell of the square are joined, of four -/
def sqOwn (τ : gSt) (lv : Int32) (k : Nat) : Prop := ¬ high τ lv k ↔ 4 * lv.toInt ≤ (τ.1 0 k).toInt + (τ.1 0 (k + 1)).toInt + (τ.1 0 (k + 12)).toInt + (τ.1 0 (k + 13)).toInt
noncomputable def cif {A : Type} (p : Prop) (a b : A) : A := @ite A p (Classical.propDecidable p) a b
theorem cif_pos {A : Type} {p : Prop} {a b : A} (h : p) : cif p a b = a := if_pos h
theorem cif_neg {A : Type} {p : Prop} {a b : A} (h : ¬ p) : cif p a b = b := if_neg h
noncomputable def sqF (τ : gSt) (lv : Int32) (k : Nat) (M : Nat → Nat) : Nat → Nat :=
  cif (sqIn τ k) (cif (gapP τ lv k ∧ gapP τ lv (k + 12) ∧ gapP τ lv (144 + k) ∧ gapP τ lv (145 + k)) (cif (sqOwn τ lv k) (relab (relab M k (144 + k)) (k + 12) (145 + k)) (relab (relab M k (145 + k)) (k + 12) (144 + k)))
    (cif (gapP τ lv k ∨ gapP τ lv (k + 12) ∨ gapP τ lv (144 + k) ∨ gapP τ lv (145 + k)) (relab M (cif (gapP τ lv k) k (cif (gapP τ lv (k + 12)) (k + 12) (144 + k))) (cif (gapP τ lv (145 + k)) (145 + k) (cif (gapP τ lv (144 + k)) (144 + k) (k + 12)))) M)) M
theorem sq_gaps {τ : gSt} {lv : Int32} {k : Nat} (hT : InvT τ) (hk : sqIn τ k) : (gapP τ lv k ↔ ¬ (high τ lv k ↔ high τ lv (k + 1))) ∧ (gapP τ lv (k + 12) ↔ ¬ (high τ lv (k + 12) ↔ high τ lv (k + 13))) ∧ (gapP τ lv (144 + k) ↔ ¬ (high τ lv k ↔ high τ lv (k + 12))) ∧ (gapP τ lv (145 + k) ↔ ¬ (high τ lv (k + 1) ↔ high τ lv (k + 13))) := by
  obtain ⟨w1, w2, w3, w4, -⟩ := hT
  obtain ⟨k1, k2⟩ := hk
  refine ⟨⟨fun h => ?_, fun h => Or.inl ⟨by omega, by omega, by omega, h⟩⟩, ⟨fun h => ?_, fun h => Or.inl ⟨by omega, by omega, by omega, h⟩⟩, ⟨fun h => ?_, fun h => Or.inr ⟨by omega, by omega, by omega, by omega, ?_⟩⟩, ⟨fun h => ?_, fun h => Or.inr ⟨by omega, by omega, by omega, by omega, ?_⟩⟩⟩
  · rcases h with h | h
    · exact h.2.2.2
    · omega
  · rcases h with h | h
    · exact h.2.2.2
    · omega
  · rcases h with h | h
    · omega
    · have := h.2.2.2.2
      rw [show 144 + k - 144 = k by omega, show 144 + k - 132 = k + 12 by omega] at this
      exact this
  · rw [show 144 + k - 144 = k by omega, show 144 + k - 132 = k + 12 by omega]
    exact h
  · rcases h with h | h
    · omega
    · have := h.2.2.2.2
      rw [show 145 + k - 144 = k + 1 by omega, show 145 + k - 132 = k + 13 by omega] at this
      exact this
  · rw [show 145 + k - 144 = k + 1 by omega, show 145 + k - 132 = k + 13 by omega]
    exact h
