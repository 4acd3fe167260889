/-! ===== pure: best routes, told by numbers alone ===== -/
/-- there is a way of n steps from src to v that costs C and climbs K -/
def Rch (E : Nat → Nat → Prop) (w u : Nat → Nat → Int) (src : Nat) : Nat → Nat → Int → Int → Prop
  | 0, v, C, K => v = src ∧ C = 0 ∧ K = 0
  | n + 1, v, C, K => ∃ a C' K', Rch E w u src n a C' K' ∧ E a v ∧ C = C' + w a v ∧ K = K' + u a v
/-- less cost, or the same and no more climb -/
def lx (C K C' K' : Int) : Prop := C < C' ∨ (C = C' ∧ K ≤ K')
def Best (E : Nat → Nat → Prop) (w u : Nat → Nat → Int) (src : Nat) (fin : Nat → Prop) (c k : Nat → Int) : Prop :=
  fin src ∧ c src = 0 ∧ k src = 0 ∧ (∀ v, fin v → ∃ n, Rch E w u src n v (c v) (k v)) ∧ (∀ a v, E a v → fin a → fin v ∧ lx (c v) (k v) (c a + w a v) (k a + u a v))
theorem low {E : Nat → Nat → Prop} {w u : Nat → Nat → Int} {src : Nat} {fin : Nat → Prop} {c k : Nat → Int} (hB : Best E w u src fin c k) : ∀ n v C K, Rch E w u src n v C K → fin v ∧ lx (c v) (k v) C K := by
  obtain ⟨b1, b2, b3, b4, b5⟩ := hB
  intro n
  induction n with
  | zero =>
    intro v C K ⟨h1, h2, h3⟩
    subst h1 h2 h3
    exact ⟨b1, Or.inr ⟨b2, by omega⟩⟩
  | succ n ih =>
    intro v C K ⟨a, C', K', h, he, h1, h2⟩
    obtain ⟨f, l⟩ := ih a C' K' h
    obtain ⟨f2, l2⟩ := b5 a v he f
    refine ⟨f2, ?_⟩
    unfold lx at l l2 ⊢
    omega
theorem best_one {E : Nat → Nat → Prop} {w u : Nat → Nat → Int} {src : Nat} {fin fin' : Nat → Prop} {c k c' k' : Nat → Int} (h : Best E w u src fin c k) (g : Best E w u src fin' c' k') (v : Nat) : (fin v ↔ fin' v) ∧ (fin v → c v = c' v ∧ k v = k' v) := by
  have one : fin v → fin' v ∧ lx (c' v) (k' v) (c v) (k v) := fun f => by
    obtain ⟨n, hn⟩ := h.2.2.2.1 v f
    exact low g n v _ _ hn
  have two : fin' v → fin v ∧ lx (c v) (k v) (c' v) (k' v) := fun f => by
    obtain ⟨n, hn⟩ := g.2.2.2.1 v f
    exact low h n v _ _ hn
  refine ⟨⟨fun f => (one f).1, fun f => (two f).1⟩, fun f => ?_⟩
  have l1 := (one f).2
  have l2 := (two (one f).1).2
  unfold lx at l1 l2
  omega
/-- the costs alone -/
theorem rch_flat {E : Nat → Nat → Prop} {w u : Nat → Nat → Int} {src : Nat} : ∀ n v C K, Rch E w u src n v C K → Rch E w (fun _ _ => 0) src n v C 0 := by
  intro n
  induction n with
  | zero => intro v C K ⟨h1, h2, _⟩; exact ⟨h1, h2, rfl⟩
  | succ n ih =>
    intro v C K ⟨a, C', K', h, he, h1, _⟩
    exact ⟨a, C', 0, ih a C' K' h, he, h1, rfl⟩
theorem best_flat {E : Nat → Nat → Prop} {w u : Nat → Nat → Int} {src : Nat} {fin : Nat → Prop} {c k : Nat → Int} (h : Best E w u src fin c k) : Best E w (fun _ _ => 0) src fin c (fun _ => 0) := by
  obtain ⟨b1, b2, b3, b4, b5⟩ := h
  refine ⟨b1, b2, rfl, fun v f => ?_, fun a v he f => ?_⟩
  · obtain ⟨n, hn⟩ := b4 v f
    exact ⟨n, rch_flat n v _ _ hn⟩
  · obtain ⟨f2, l⟩ := b5 a v he f
    refine ⟨f2, ?_⟩
    show c v < c a + w a v ∨ (c v = c a + w a v ∧ (0 : Int) ≤ 0 + 0)
    unfold lx at l
    omega
/-- what is known of the steps -/
def EW (E : Nat → Nat → Prop) (w u : Nat → Nat → Int) : Prop := ∀ a v, E a v → a < 144 ∧ v < 144 ∧ a ≠ v ∧ 10 ≤ w a v ∧ w a v ≤ 1060 ∧ 0 ≤ u a v ∧ 4 * u a v ≤ w a v
/-- costs f and climbs g, as far as they are found: z stands for none -/
def MapI (E : Nat → Nat → Prop) (w u : Nat → Nat → Int) (src : Nat) (z : Int32) (f g : Nat → Int32) : Prop :=
  f src = 0 ∧ g src = 0 ∧ (∀ v, v < 144 → f v ≠ z → ∃ n, Rch E w u src n v (f v).toInt (g v).toInt) ∧ (∀ v, v < 144 → f v ≠ z → 0 ≤ (f v).toInt ∧ (f v).toInt ≤ 1060 * cnt (fun x => f x ≠ z) 144 ∧ 0 ≤ (g v).toInt ∧ 4 * (g v).toInt ≤ (f v).toInt)
theorem MapI.in_ {E : Nat → Nat → Prop} {w u : Nat → Nat → Int} {src : Nat} {z : Int32} {f g : Nat → Int32} (h : MapI E w u src z f g) {v : Nat} (h144 : v < 144) (hv : f v ≠ z) : 0 ≤ (f v).toInt ∧ (f v).toInt ≤ 152640 ∧ 0 ≤ (g v).toInt ∧ (g v).toInt ≤ 38160 := by
  obtain ⟨b, c, d, e⟩ := h.2.2.2 v h144 hv
  have := cnt_le (p := fun x => f x ≠ z) 144
  exact ⟨b, by omega, d, by omega⟩
/-- a step that makes it less -/
theorem MapI.relax {E : Nat → Nat → Prop} {w u : Nat → Nat → Int} {src : Nat} {z : Int32} {f g : Nat → Int32} (h : MapI E w u src z f g) (hw : EW E w u) (hz : z.toInt < 0 ∨ 1000000 < z.toInt) {a v : Nat} {x y : Int32} (he : E a v) (ha : f a ≠ z) (hx : x.toInt = (f a).toInt + w a v) (hy : y.toInt = (g a).toInt + u a v) (hb : f v = z ∨ x.toInt ≤ (f v).toInt) : MapI E w u src z (upd f v x) (upd g v y) := by
  obtain ⟨w0, w1, w2, w3, w4, w5, w6⟩ := hw a v he
  obtain ⟨i2, i3, i4, i5⟩ := h.in_ w0 ha
  obtain ⟨h1, h2, h3, h4⟩ := h
  have z0 : (0 : Int32) ≠ z := fun e => by rw [← e, tl0] at hz; omega
  have hs : v ≠ src := fun e => by
    rcases hb with q | q
    · rw [e, h1] at q
      exact z0 q
    · rw [e, h1, tl0] at q
      omega
  have xz : x ≠ z := fun e => by rw [← e] at hz; omega
  obtain ⟨n, hn⟩ := h3 a w0 ha
  have hc : cnt (fun q => f q ≠ z) 144 ≤ cnt (fun q => upd f v x q ≠ z) 144 ∧ (f v = z → cnt (fun q => upd f v x q ≠ z) 144 = cnt (fun q => f q ≠ z) 144 + 1) := by
    by_cases q : f v = z
    · have := cnt_add (p := fun q => f q ≠ z) (q := fun q => upd f v x q ≠ z) (r := v) (fun e => e q) (fun k => by
        show upd f v x k ≠ z ↔ (f k ≠ z ∨ k = v)
        rw [upd_at]
        by_cases e : k = v
        · rw [if_pos e]; exact ⟨fun _ => Or.inr e, fun _ => xz⟩
        · rw [if_neg e]; exact ⟨fun e2 => Or.inl e2, fun e2 => e2.elim id (fun e3 => absurd e3 e)⟩) 144
      rw [if_pos w1] at this
      exact ⟨by omega, fun _ => this⟩
    · have := cnt_congr (p := fun q => f q ≠ z) (q := fun q => upd f v x q ≠ z) 144 (fun k _ => by
        show f k ≠ z ↔ upd f v x k ≠ z
        rw [upd_at]
        by_cases e : k = v
        · rw [if_pos e, e]; exact ⟨fun _ => xz, fun _ => q⟩
        · rw [if_neg e])
      exact ⟨by omega, fun e => absurd e q⟩
  refine ⟨by rw [upd_at, if_neg (fun e => hs e.symm)]; exact h1, by rw [upd_at, if_neg (fun e => hs e.symm)]; exact h2, fun q hq0 hq => ?_, fun q hq0 hq => ?_⟩
  · rw [upd_at] at hq
    rw [upd_at, upd_at]
    by_cases e : q = v
    · rw [if_pos e, if_pos e, hx, hy, e]
      exact ⟨n + 1, a, _, _, hn, he, rfl, rfl⟩
    · rw [if_neg e] at hq
      rw [if_neg e, if_neg e]
      exact h3 q hq0 hq
  · rw [upd_at] at hq
    rw [upd_at, upd_at]
    by_cases e : q = v
    · rw [if_pos e, if_pos e, hx, hy]
      obtain ⟨j2, j3, j4, j5⟩ := h4 a w0 ha
      refine ⟨by omega, ?_, by omega, by omega⟩
      rcases hb with g | g
      · have := hc.2 g
        omega
      · by_cases g2 : f v = z
        · have := hc.2 g2
          omega
        · have := (h4 v w1 g2).2.1
          have := hc.1
          omega
    · rw [if_neg e] at hq
      rw [if_neg e, if_neg e]
      obtain ⟨j2, j3, j4, j5⟩ := h4 q hq0 hq
      have := hc.1
      exact ⟨j2, by omega, j4, j5⟩
theorem MapI.start {E : Nat → Nat → Prop} {w u : Nat → Nat → Int} {src : Nat} {z : Int32} {f g : Nat → Int32} (h0 : f src = 0) (h1 : g src = 0) (h : ∀ v, v < 144 → v ≠ src → f v = z) (z0 : (0 : Int32) ≠ z) : MapI E w u src z f g := by
  refine ⟨h0, h1, fun v h144 hv => ?_, fun v h144 hv => ?_⟩
  · by_cases e : v = src
    · rw [e, h0, h1]
      exact ⟨0, rfl, rfl, rfl⟩
    · exact absurd (h v h144 e) hv
  · by_cases e : v = src
    · rw [e, h0, h1, tl0]
      exact ⟨by omega, by omega, by omega, by omega⟩
    · exact absurd (h v h144 e) hv
/-- when each step is taken: these are the best -/
theorem MapI.best {E : Nat → Nat → Prop} {w u : Nat → Nat → Int} {src : Nat} {z : Int32} {f g : Nat → Int32} (h : MapI E w u src z f g) (z0 : (0 : Int32) ≠ z) (h144 : src < 144) (hw : EW E w u) (hs : ∀ a v, E a v → f a ≠ z → f v ≠ z ∧ lx (f v).toInt (g v).toInt ((f a).toInt + w a v) ((g a).toInt + u a v)) : Best E w u src (fun v => v < 144 ∧ f v ≠ z) (fun v => (f v).toInt) (fun v => (g v).toInt) := by
  obtain ⟨h1, h2, h3, h4⟩ := h
  refine ⟨⟨h144, ?_⟩, ?_, ?_, fun v hv => h3 v hv.1 hv.2, fun a v he hf => ⟨⟨(hw a v he).2.1, (hs a v he hf.2).1⟩, (hs a v he hf.2).2⟩⟩
  · rw [h1]
    exact z0
  · show (f src).toInt = 0
    rw [h1]
    rfl
  · show (g src).toInt = 0
    rw [h2]
    rfl
/-! the map's steps -/
def onK (τ : gSt) (k : Nat) : Prop := ((k % 12 : Nat) : Int) < (τ.2 0).toInt ∧ ((k / 12 : Nat) : Int) < (τ.2 1).toInt
def nbR (τ : gSt) (k : Nat) : Prop := onK τ k ∧ ((k % 12 : Nat) : Int) + 1 < (τ.2 0).toInt
def nbD (τ : gSt) (k : Nat) : Prop := onK τ k ∧ ((k / 12 : Nat) : Int) + 1 < (τ.2 1).toInt
def nb (τ : gSt) (a v : Nat) : Prop := (nbR τ a ∧ v = a + 1) ∨ (nbR τ v ∧ a = v + 1) ∨ (nbD τ a ∧ v = a + 12) ∨ (nbD τ v ∧ a = v + 12)
/-- the steps that may be taken: with all, also over forbidden ground -/
def eT (τ : gSt) (all : Prop) (a v : Nat) : Prop := nb τ a v ∧ (all ∨ τ.1 1 v ≠ 4)
def prF (x : Int32) : Int := if x = 1 then 12 else if x = 2 then 20 else if x = 3 then 40 else 10
def uT (τ : gSt) (a v : Nat) : Int := max 0 ((τ.1 0 v).toInt - (τ.1 0 a).toInt)
def wT (τ : gSt) (a v : Nat) : Int := prF (τ.1 1 v) + 4 * uT τ a v
theorem onK_lt {τ : gSt} (hT : InvT τ) {k : Nat} (h : onK τ k) : k < 144 := by
  have h1 := h.1
  have h2 := h.2
  have h3 := hT.2.1
  have h4 := hT.2.2.2.1
  omega
theorem nbR_in {τ : gSt} (hT : InvT τ) {k : Nat} (h : nbR τ k) : onK τ k ∧ onK τ (k + 1) ∧ k + 1 < 144 := by
  obtain ⟨⟨h1, h2⟩, h3⟩ := h
  have h4 := hT.2.1
  have h5 := hT.2.2.2.1
  refine ⟨⟨h1, h2⟩, ⟨?_, ?_⟩, ?_⟩
  · have : (k + 1) % 12 = k % 12 + 1 := by omega
    rw [this]
    omega
  · have : (k + 1) / 12 = k / 12 := by omega
    rw [this]
    omega
  · omega
theorem nbD_in {τ : gSt} (hT : InvT τ) {k : Nat} (h : nbD τ k) : onK τ k ∧ onK τ (k + 12) ∧ k + 12 < 144 := by
  obtain ⟨⟨h1, h2⟩, h3⟩ := h
  have h4 := hT.2.1
  have h5 := hT.2.2.2.1
  refine ⟨⟨h1, h2⟩, ⟨?_, ?_⟩, ?_⟩
  · have : (k + 12) % 12 = k % 12 := by omega
    rw [this]
    omega
  · have : (k + 12) / 12 = k / 12 + 1 := by omega
    rw [this]
    omega
  · omega
theorem nb_in {τ : gSt} (hT : InvT τ) {a v : Nat} (h : nb τ a v) : onK τ a ∧ onK τ v ∧ a < 144 ∧ v < 144 ∧ a ≠ v := by
  rcases h with ⟨h, e⟩ | ⟨h, e⟩ | ⟨h, e⟩ | ⟨h, e⟩
  · obtain ⟨a1, a2, a3⟩ := nbR_in hT h
    rw [e]
    exact ⟨a1, a2, by omega, by omega, by omega⟩
  · obtain ⟨a1, a2, a3⟩ := nbR_in hT h
    rw [e]
    exact ⟨a2, a1, by omega, by omega, by omega⟩
  · obtain ⟨a1, a2, a3⟩ := nbD_in hT h
    rw [e]
    exact ⟨a1, a2, by omega, by omega, by omega⟩
  · obtain ⟨a1, a2, a3⟩ := nbD_in hT h
    rw [e]
    exact ⟨a2, a1, by omega, by omega, by omega⟩
theorem prF_in (x : Int32) : 10 ≤ prF x ∧ prF x ≤ 40 := by
  unfold prF
  split
  · omega
  · split
    · omega
    · split <;> omega
theorem wT_in {τ : gSt} (hT : InvT τ) (a v : Nat) : 0 ≤ uT τ a v ∧ uT τ a v ≤ 255 ∧ 10 ≤ wT τ a v ∧ wT τ a v ≤ 1060 ∧ 4 * uT τ a v ≤ wT τ a v := by
  have h1 := hT.2.2.2.2.1 a
  have h2 := hT.2.2.2.2.1 v
  have h3 := prF_in (τ.1 1 v)
  unfold wT uT
  omega
theorem ew_T {τ : gSt} (hT : InvT τ) (all : Prop) : EW (eT τ all) (wT τ) (uT τ) := fun a v h => by
  obtain ⟨-, -, h3, h4, h5⟩ := nb_in hT h.1
  obtain ⟨w1, w2, w3, w4, w5⟩ := wT_in hT a v
  exact ⟨h3, h4, h5, w3, w4, w1, w5⟩
theorem ew_T0 {τ : gSt} (hT : InvT τ) (all : Prop) : EW (eT τ all) (wT τ) (fun _ _ => 0) := fun a v h => by
  obtain ⟨-, -, h3, h4, h5⟩ := nb_in hT h.1
  obtain ⟨w1, w2, w3, w4, w5⟩ := wT_in hT a v
  exact ⟨h3, h4, h5, w3, w4, Int.le_refl 0, by show 4 * (0 : Int) ≤ wT τ a v; omega⟩
