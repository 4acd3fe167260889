/-! ===== pure: the class's search: what is taken and what waits ===== -/
/-- costs f, climbs g, the row of those that wait q: T are taken, n in number, m wait; Q: the steps taken so far -/
def DI (τ : gSt) (all : Prop) (src : Nat) (f g q : Nat → Int32) (T : Nat → Prop) (Q : Nat → Nat → Prop) (n m : Nat) : Prop :=
  MapI (eT τ all) (wT τ) (uT τ) src (-1) f g ∧
  (∀ j, j < m → 0 ≤ (q j).toInt ∧ (q j).toInt < 144 ∧ f (q j).toInt.toNat ≠ -1 ∧ ¬ T (q j).toInt.toNat) ∧
  (∀ i j, i < j → j < m → q i ≠ q j) ∧
  (∀ v : Nat, v < 144 → f v ≠ -1 → T v ∨ ∃ j, j < m ∧ (q j).toInt = v) ∧
  (∀ t, T t → t < 144 ∧ f t ≠ -1) ∧
  (∀ t, T t → ∀ j, j < m → (f t).toInt ≤ (f (q j).toInt.toNat).toInt) ∧
  n + m = cnt (fun v => f v ≠ -1) 144 ∧
  (∀ v, v < 144 → f v = -1 → g v = -1) ∧
  (∀ v, v < 144 → f v ≠ -1 → onK τ v) ∧
  (∀ t v, T t → Q t v → eT τ all t v → f v ≠ -1 ∧ lx (f v).toInt (g v).toInt ((f t).toInt + wT τ t v) ((g t).toInt + uT τ t v))
theorem DI.weak {τ : gSt} {all : Prop} {src : Nat} {f g q : Nat → Int32} {T : Nat → Prop} {Q Q' : Nat → Nat → Prop} {n m : Nat} (h : DI τ all src f g q T Q n m) (hQ : ∀ t v, T t → Q' t v → eT τ all t v → Q t v) : DI τ all src f g q T Q' n m := by
  obtain ⟨d1, d2, d3, d4, d5, d6, d7, d8, d9, d10⟩ := h
  exact ⟨d1, d2, d3, d4, d5, d6, d7, d8, d9, fun t v h1 h2 h3 => d10 t v h1 (hQ t v h1 h2 h3) h3⟩
/-- a cell found for the first time waits -/
theorem DI.new {τ : gSt} {all : Prop} {src k v : Nat} {f g q : Nat → Int32} {T : Nat → Prop} {Q : Nat → Nat → Prop} {n m : Nat} {x y b : Int32} (hT : InvT τ) (h : DI τ all src f g q T Q n m) (hk : T k) (hkm : ∀ t, T t → (f t).toInt ≤ (f k).toInt) (he : eT τ all k v) (hv : f v = -1) (hb : b.toInt = v) (hx : x.toInt = (f k).toInt + wT τ k v) (hy : y.toInt = (g k).toInt + uT τ k v) : DI τ all src (upd f v x) (upd g v y) (upd q m b) T (fun t a => Q t a ∨ (t = k ∧ a = v)) n (m + 1) ∧ m < 144 := by
  obtain ⟨-, nk, k144, v144, kv⟩ := nb_in hT he.1
  obtain ⟨w1, w2, w3, w4, w5⟩ := wT_in hT k v
  obtain ⟨d1, d2, d3, d4, d5, d6, d7, d8, d9, d10⟩ := h
  have fk := (d5 k hk).2
  have ik := d1.in_ k144 fk
  have xm : x ≠ -1 := fun e => by rw [e, tlm1] at hx; omega
  have hTv : ¬ T v := fun e => (d5 v e).2 hv
  have hm1 : MapI (eT τ all) (wT τ) (uT τ) src (-1) (upd f v x) (upd g v y) := d1.relax (ew_T hT all) (Or.inl (by rw [tlm1]; omega)) he fk hx hy (Or.inl hv)
  have fo : ∀ a, a ≠ v → upd f v x a = f a := fun a h => by rw [upd_at, if_neg h]
  have go : ∀ a, a ≠ v → upd g v y a = g a := fun a h => by rw [upd_at, if_neg h]
  have fv : upd f v x v = x := by rw [upd_at, if_pos rfl]
  have gv : upd g v y v = y := by rw [upd_at, if_pos rfl]
  have qo : ∀ j, j ≠ m → upd q m b j = q j := fun j h => by rw [upd_at, if_neg h]
  have qm : upd q m b m = b := by rw [upd_at, if_pos rfl]
  have qv : ∀ j, j < m → (q j).toInt.toNat ≠ v := fun j hj e => by
    have := (d2 j hj).2.2.1
    rw [e] at this
    exact this hv
  have tv : ∀ t, T t → t ≠ v := fun t ht e => hTv (e ▸ ht)
  have hc : cnt (fun a => upd f v x a ≠ -1) 144 = cnt (fun a => f a ≠ -1) 144 + 1 := by
    have := cnt_add (p := fun a => f a ≠ -1) (q := fun a => upd f v x a ≠ -1) (r := v) (fun e => e hv) (fun a => by
      show upd f v x a ≠ -1 ↔ (f a ≠ -1 ∨ a = v)
      by_cases e : a = v
      · rw [e, fv]; exact ⟨fun _ => Or.inr rfl, fun _ => xm⟩
      · rw [fo a e]; exact ⟨fun e2 => Or.inl e2, fun e2 => e2.elim id (fun e3 => absurd e3 e)⟩) 144
    rw [if_pos v144] at this
    exact this
  have hle := cnt_le (p := fun a => upd f v x a ≠ -1) 144
  refine ⟨⟨hm1, fun j hj => ?_, fun i j hij hj => ?_, fun a ha hfa => ?_, fun t ht => ?_, fun t ht j hj => ?_, by rw [hc]; omega, fun a ha hfa => ?_, fun a ha hfa => ?_, fun t a ht hq hE => ?_⟩, by omega⟩
  · by_cases e : j = m
    · rw [e, qm, hb]
      refine ⟨by omega, by omega, ?_, ?_⟩
      · rw [show (((v : Nat) : Int)).toNat = v from rfl, fv]
        exact xm
      · exact hTv
    · rw [qo j e, fo _ (qv j (by omega))]
      exact d2 j (by omega)
  · by_cases e : j = m
    · rw [e, qm, qo i (by omega)]
      intro e2
      exact qv i (by omega) (by rw [e2, hb]; rfl)
    · rw [qo j e, qo i (by omega)]
      exact d3 i j hij (by omega)
  · by_cases e : a = v
    · exact Or.inr ⟨m, by omega, by rw [qm, hb, e]⟩
    · rw [fo a e] at hfa
      rcases d4 a ha hfa with h | ⟨j, h1, h2⟩
      · exact Or.inl h
      · exact Or.inr ⟨j, by omega, by rw [qo j (by omega)]; exact h2⟩
  · rw [fo t (tv t ht)]
    exact d5 t ht
  · rw [fo t (tv t ht)]
    by_cases e : j = m
    · rw [e, qm, hb, show (((v : Nat) : Int)).toNat = v from rfl, fv, hx]
      have := hkm t ht
      omega
    · rw [qo j e, fo _ (qv j (by omega))]
      exact d6 t ht j (by omega)
  · by_cases e : a = v
    · rw [e, fv] at hfa
      exact absurd hfa xm
    · rw [fo a e] at hfa
      rw [go a e]
      exact d8 a ha hfa
  · by_cases e : a = v
    · rw [e]
      exact nk
    · rw [fo a e] at hfa
      exact d9 a ha hfa
  · rw [fo t (tv t ht), go t (tv t ht)]
    rcases hq with hq | ⟨h1, h2⟩
    · obtain ⟨g1, g2⟩ := d10 t a ht hq hE
      have e : a ≠ v := fun e => g1 (e ▸ hv)
      rw [fo a e, go a e]
      exact ⟨g1, g2⟩
    · subst h1 h2
      rw [fv, gv, hx, hy]
      exact ⟨xm, Or.inr ⟨rfl, Int.le_refl _⟩⟩
/-- a cell that waits is found for less -/
theorem DI.less {τ : gSt} {all : Prop} {src k v : Nat} {f g q : Nat → Int32} {T : Nat → Prop} {Q : Nat → Nat → Prop} {n m : Nat} {x y : Int32} (hT : InvT τ) (h : DI τ all src f g q T Q n m) (hk : T k) (hkm : ∀ t, T t → (f t).toInt ≤ (f k).toInt) (he : eT τ all k v) (hv : f v ≠ -1) (hx : x.toInt = (f k).toInt + wT τ k v) (hy : y.toInt = (g k).toInt + uT τ k v) (hl : x.toInt < (f v).toInt ∨ (x.toInt = (f v).toInt ∧ y.toInt < (g v).toInt)) : DI τ all src (upd f v x) (upd g v y) q T (fun t a => Q t a ∨ (t = k ∧ a = v)) n m := by
  obtain ⟨-, nk, k144, v144, kv⟩ := nb_in hT he.1
  obtain ⟨w1, w2, w3, w4, w5⟩ := wT_in hT k v
  obtain ⟨d1, d2, d3, d4, d5, d6, d7, d8, d9, d10⟩ := h
  have fk := (d5 k hk).2
  have ik := d1.in_ k144 fk
  have xm : x ≠ -1 := fun e => by rw [e, tlm1] at hx; omega
  have hTv : ¬ T v := fun e => by
    have := hkm v e
    omega
  have hm1 : MapI (eT τ all) (wT τ) (uT τ) src (-1) (upd f v x) (upd g v y) := d1.relax (ew_T hT all) (Or.inl (by rw [tlm1]; omega)) he fk hx hy (Or.inr (by omega))
  have fo : ∀ a, a ≠ v → upd f v x a = f a := fun a h => by rw [upd_at, if_neg h]
  have go : ∀ a, a ≠ v → upd g v y a = g a := fun a h => by rw [upd_at, if_neg h]
  have fv : upd f v x v = x := by rw [upd_at, if_pos rfl]
  have gv : upd g v y v = y := by rw [upd_at, if_pos rfl]
  have tv : ∀ t, T t → t ≠ v := fun t ht e => hTv (e ▸ ht)
  have fin : ∀ a, upd f v x a ≠ -1 ↔ f a ≠ -1 := fun a => by
    by_cases e : a = v
    · rw [e, fv]; exact ⟨fun _ => hv, fun _ => xm⟩
    · rw [fo a e]
  have hc : cnt (fun a => upd f v x a ≠ -1) 144 = cnt (fun a => f a ≠ -1) 144 := cnt_congr 144 (fun a _ => fin a)
  refine ⟨hm1, fun j hj => ?_, d3, fun a ha hfa => d4 a ha ((fin a).mp hfa), fun t ht => ?_, fun t ht j hj => ?_, by rw [hc]; exact d7, fun a ha hfa => ?_, fun a ha hfa => d9 a ha ((fin a).mp hfa), fun t a ht hq hE => ?_⟩
  · obtain ⟨a1, a2, a3, a4⟩ := d2 j hj
    exact ⟨a1, a2, (fin _).mpr a3, a4⟩
  · rw [fo t (tv t ht)]
    exact d5 t ht
  · rw [fo t (tv t ht)]
    by_cases e : (q j).toInt.toNat = v
    · rw [e, fv, hx]
      have := hkm t ht
      omega
    · rw [fo _ e]
      exact d6 t ht j hj
  · by_cases e : a = v
    · rw [e, fv] at hfa
      exact absurd hfa xm
    · rw [fo a e] at hfa
      rw [go a e]
      exact d8 a ha hfa
  · rw [fo t (tv t ht), go t (tv t ht)]
    rcases hq with hq | ⟨h1, h2⟩
    · obtain ⟨g1, g2⟩ := d10 t a ht hq hE
      refine ⟨(fin a).mpr g1, ?_⟩
      by_cases e : a = v
      · subst e
        rw [fv, gv]
        unfold lx at g2 ⊢
        omega
      · rw [fo a e, go a e]
        exact g2
    · subst h1 h2
      rw [fv, gv, hx, hy]
      exact ⟨xm, Or.inr ⟨rfl, Int.le_refl _⟩⟩
/-- nothing is found for less -/
theorem DI.stay {τ : gSt} {all : Prop} {src k v : Nat} {f g q : Nat → Int32} {T : Nat → Prop} {Q : Nat → Nat → Prop} {n m : Nat} {x y : Int32} (h : DI τ all src f g q T Q n m) (hv : f v ≠ -1) (hx : x.toInt = (f k).toInt + wT τ k v) (hy : y.toInt = (g k).toInt + uT τ k v) (hl : ¬ (x.toInt < (f v).toInt ∨ (x.toInt = (f v).toInt ∧ y.toInt < (g v).toInt))) : DI τ all src f g q T (fun t a => Q t a ∨ (t = k ∧ a = v)) n m := by
  obtain ⟨d1, d2, d3, d4, d5, d6, d7, d8, d9, d10⟩ := h
  refine ⟨d1, d2, d3, d4, d5, d6, d7, d8, d9, fun t a ht hq hE => ?_⟩
  rcases hq with hq | ⟨h1, h2⟩
  · exact d10 t a ht hq hE
  · subst h1 h2
    refine ⟨hv, ?_⟩
    unfold lx
    omega
/-- the nearest one is taken -/
theorem DI.take {τ : gSt} {all : Prop} {src b : Nat} {f g q : Nat → Int32} {T : Nat → Prop} {n m : Nat} (h : DI τ all src f g q T (fun _ _ => True) n m) (hb : b < m) (hmin : ∀ j, j < m → (f (q b).toInt.toNat).toInt ≤ (f (q j).toInt.toNat).toInt) : DI τ all src f g (upd q b (q (m - 1))) (fun t => T t ∨ t = (q b).toInt.toNat) (fun t _ => t ≠ (q b).toInt.toNat) (n + 1) (m - 1) ∧ (∀ t, (T t ∨ t = (q b).toInt.toNat) → (f t).toInt ≤ (f (q b).toInt.toNat).toInt) ∧ onK τ (q b).toInt.toNat := by
  obtain ⟨d1, d2, d3, d4, d5, d6, d7, d8, d9, d10⟩ := h
  obtain ⟨b1, b2, b3, b4⟩ := d2 b hb
  have hd : ∀ i j, i < m → j < m → i ≠ j → q i ≠ q j := fun i j h1 h2 h3 => by
    rcases Nat.lt_or_ge i j with g | g
    · exact d3 i j g h2
    · exact fun e => d3 j i (by omega) h1 e.symm
  have hn : ∀ i j, i < m → j < m → i ≠ j → (q i).toInt.toNat ≠ (q j).toInt.toNat := fun i j h1 h2 h3 e => by
    have a := d2 i h1
    have c := d2 j h2
    exact hd i j h1 h2 h3 (teq.mpr (by omega))
  have qo : ∀ j, j ≠ b → upd q b (q (m - 1)) j = q j := fun j h => by rw [upd_at, if_neg h]
  have qb : upd q b (q (m - 1)) b = q (m - 1) := by rw [upd_at, if_pos rfl]
  refine ⟨⟨d1, fun j hj => ?_, fun i j hij hj => ?_, fun a ha hfa => ?_, fun t ht => ?_, fun t ht j hj => ?_, by omega, d8, d9, fun t a ht hq hE => ?_⟩, fun t ht => ?_, d9 _ (by omega) b3⟩
  · by_cases e : j = b
    · rw [e, qb]
      obtain ⟨a1, a2, a3, a4⟩ := d2 (m - 1) (by omega)
      exact ⟨a1, a2, a3, fun g => g.elim a4 (fun g => hn (m - 1) b (by omega) hb (by omega) g)⟩
    · rw [qo j e]
      obtain ⟨a1, a2, a3, a4⟩ := d2 j (by omega)
      exact ⟨a1, a2, a3, fun g => g.elim a4 (fun g => hn j b (by omega) hb e g)⟩
  · by_cases e : j = b
    · rw [e, qb, qo i (by omega)]
      exact hd i (m - 1) (by omega) (by omega) (by omega)
    · rw [qo j e]
      by_cases e2 : i = b
      · rw [e2, qb]
        exact hd (m - 1) j (by omega) (by omega) (by omega)
      · rw [qo i e2]
        exact d3 i j hij (by omega)
  · rcases d4 a ha hfa with h | ⟨j, h1, h2⟩
    · exact Or.inl (Or.inl h)
    · by_cases e : j = b
      · exact Or.inl (Or.inr (by rw [← e, h2]; rfl))
      · by_cases e2 : j = m - 1
        · exact Or.inr ⟨b, by omega, by rw [qb, ← e2]; exact h2⟩
        · exact Or.inr ⟨j, by omega, by rw [qo j e]; exact h2⟩
  · rcases ht with ht | ht
    · exact d5 t ht
    · rw [ht]
      exact ⟨by omega, b3⟩
  · have hq : ∃ j', j' < m ∧ upd q b (q (m - 1)) j = q j' := by
      by_cases e : j = b
      · exact ⟨m - 1, by omega, by rw [e, qb]⟩
      · exact ⟨j, by omega, qo j e⟩
    obtain ⟨j', h1, h2⟩ := hq
    rw [h2]
    rcases ht with ht | ht
    · exact d6 t ht j' h1
    · rw [ht]
      exact hmin j' h1
  · rcases ht with ht | ht
    · exact d10 t a ht trivial hE
    · exact absurd ht hq
  · rcases ht with ht | ht
    · exact d6 t ht b hb
    · rw [ht]
      exact Int.le_refl _
