/-! ===== pure: the reference finds the best routes ===== -/
/-- what falls, whenever a way is found -/
def phi (f g : Nat → Int32) : Nat → Nat
  | 0 => 0
  | n + 1 => phi f g n + ((f n).toInt.toNat * 2147483648 + (g n).toInt.toNat)
theorem phi_same {f g : Nat → Int32} {v : Nat} {x y : Int32} : ∀ n, n ≤ v → phi (upd f v x) (upd g v y) n = phi f g n := by
  intro n
  induction n with
  | zero => intro _; rfl
  | succ n ih =>
    intro h
    show phi (upd f v x) (upd g v y) n + ((upd f v x n).toInt.toNat * 2147483648 + (upd g v y n).toInt.toNat) = _
    rw [ih (by omega), upd_at, upd_at, if_neg (by omega), if_neg (by omega)]
    rfl
theorem phi_lt {f g : Nat → Int32} {v : Nat} {x y : Int32} (h : x.toInt.toNat * 2147483648 + y.toInt.toNat < (f v).toInt.toNat * 2147483648 + (g v).toInt.toNat) : ∀ d, phi (upd f v x) (upd g v y) (v + 1 + d) < phi f g (v + 1 + d) := by
  intro d
  induction d with
  | zero =>
    show phi (upd f v x) (upd g v y) v + ((upd f v x v).toInt.toNat * 2147483648 + (upd g v y v).toInt.toNat) < phi f g v + ((f v).toInt.toNat * 2147483648 + (g v).toInt.toNat)
    rw [phi_same v (Nat.le_refl _), upd_at, upd_at, if_pos rfl, if_pos rfl]
    omega
  | succ d ih =>
    show phi (upd f v x) (upd g v y) (v + 1 + d) + ((upd f v x (v + 1 + d)).toInt.toNat * 2147483648 + (upd g v y (v + 1 + d)).toInt.toNat) < phi f g (v + 1 + d) + ((f (v + 1 + d)).toInt.toNat * 2147483648 + (g (v + 1 + d)).toInt.toNat)
    rw [upd_at, upd_at, if_neg (by omega), if_neg (by omega)]
    omega
theorem phi_le (f g : Nat → Int32) : ∀ n, phi f g n ≤ n * 4611686020574871552 := by
  intro n
  induction n with
  | zero => exact Nat.le_refl _
  | succ n ih =>
    show phi f g n + ((f n).toInt.toNat * 2147483648 + (g n).toInt.toNat) ≤ _
    have h1 := tR (f n)
    have h2 := tR (g n)
    omega
theorem price_m (x : Int32) : (f_X10_price x).toInt = prF x := by
  unfold f_X10_price prF
  split
  · rfl
  · split
    · rfl
    · split <;> rfl
theorem far0 : (0 : Int32) ≠ 1000000000 := by decide
/-- the reference's costs and climbs -/
def Kr (s0 s : gSt) : Prop := (∀ r, r ≠ 14 → r ≠ 15 → s.1 r = s0.1 r) ∧ ∀ k, s.2 k = s0.2 k
theorem Kr.rf {s : gSt} : Kr s s := ⟨fun _ _ _ => rfl, fun _ => rfl⟩
theorem Kr.trans {a b c : gSt} (h : Kr a b) (g : Kr b c) : Kr a c := ⟨fun r h1 h2 => (g.1 r h1 h2).trans (h.1 r h1 h2), fun k => (g.2 k).trans (h.2 k)⟩
theorem Kr.pp {s0 s : gSt} {i j x y : Int32} (h : Kr s0 s) : Kr s0 (g_pa (g_pa s 14 i x) 15 j y) := ⟨fun r h1 h2 => by rw [pa_1, if_neg h2, pa_1, if_neg h1]; exact h.1 r h1 h2, h.2⟩
def MR (τ : gSt) (all : Prop) (src : Nat) (s0 s : gSt) : Prop := Km τ s ∧ Kr s0 s ∧ MapI (eT τ all) (wT τ) (uT τ) src 1000000000 (s.1 14) (s.1 15)
def stab (τ : gSt) (all : Prop) (s : gSt) (a v : Nat) : Prop := eT τ all a v → s.1 14 a ≠ 1000000000 → s.1 14 v ≠ 1000000000 ∧ lx (s.1 14 v).toInt (s.1 15 v).toInt ((s.1 14 a).toInt + wT τ a v) ((s.1 15 a).toInt + uT τ a v)
theorem falls_m {τ s0 s : gSt} {N a v src : Nat} {x1 x2 x3 : Int32} (hT : InvT τ) (hM : MR τ (x3 ≠ 0) src s0 s) (h1 : x1.toInt = a) (h2 : x2.toInt = v) (hn : nb τ a v) : Ok (fun q => (q = (0, s) ∧ stab τ (x3 ≠ 0) s a v) ∨ (q.1 = 1 ∧ MR τ (x3 ≠ 0) src s0 q.2 ∧ phi (q.2.1 14) (q.2.1 15) 144 < phi (s.1 14) (s.1 15) 144)) (f_X10_falls N s x1 x2 x3) := by
  obtain ⟨-, -, ha, hv, hne⟩ := nb_in hT hn
  obtain ⟨hK, hKr, hI⟩ := id hM
  have g1 := gd (x := x1) (n := 144) (by omega) (by omega)
  have g2 := gd (x := x2) (n := 144) (by omega) (by omega)
  have a14 : g_ga s 14 x1 = s.1 14 a := ga_at h1
  have b14 : g_ga s 14 x2 = s.1 14 v := ga_at h2
  have a15 : g_ga s 15 x1 = s.1 15 a := ga_at h1
  have b15 : g_ga s 15 x2 = s.1 15 v := ga_at h2
  have a0 : g_ga s 0 x1 = τ.1 0 a := by rw [ga_at h1, hK.1 0 (by decide)]
  have b0 : g_ga s 0 x2 = τ.1 0 v := by rw [ga_at h2, hK.1 0 (by decide)]
  have b1 : g_ga s 1 x2 = τ.1 1 v := by rw [ga_at h2, hK.1 1 (by decide)]
  have c15 : ∀ y, g_ga (g_pa s 14 x2 y) 15 x1 = s.1 15 a := fun y => ga_at h1
  unfold f_X10_falls
  simp only [a14, b14, a15, b15, a0, b0, b1, c15]
  refine okf g1 ?_
  by_cases c1 : s.1 14 a = 1000000000
  · exact okt c1 (Ok.some (Or.inl ⟨rfl, fun _ h => absurd c1 h⟩))
  refine okf c1 (ok0 ?_)
  have hA := hI.in_ ha c1
  obtain ⟨w1, w2, w3, w4, w5⟩ := wT_in hT a v
  have hh1 := hT.2.2.2.2.1 a
  have hh2 := hT.2.2.2.2.1 v
  have key : (x3 ≠ 0 ∨ τ.1 1 v ≠ 4) → Ok (fun q => (q = (0, s) ∧ stab τ (x3 ≠ 0) s a v) ∨ (q.1 = 1 ∧ MR τ (x3 ≠ 0) src s0 q.2 ∧ phi (q.2.1 14) (q.2.1 15) 144 < phi (s.1 14) (s.1 15) 144)) (if x2 < 0 ∨ 144 ≤ x2.toNatClampNeg then none else
        if x1 < 0 ∨ 144 ≤ x1.toNatClampNeg then none else
        gJoin1 (fun (w0_59 : Int32) =>
            if x1 < 0 ∨ 144 ≤ x1.toNatClampNeg then none else
            if x2 < 0 ∨ 144 ≤ x2.toNatClampNeg then none else
            if x2 < 0 ∨ 144 ≤ x2.toNatClampNeg then none else
            gJoin1 (fun (w0_129 : Int32) =>
                if w0_129 = 0 then
                  some (w0_129 &&& 1, s)
                else
                  if x2 < 0 ∨ 144 ≤ x2.toNatClampNeg then none else
                  if x1 < 0 ∨ 144 ≤ x1.toNatClampNeg then none else
                  if x2 < 0 ∨ 144 ≤ x2.toNatClampNeg then none else
                  some (w0_129 &&& 1, g_pa (g_pa s 14 x2 (((s.1 14 a) + (f_X10_price (τ.1 1 v))) + (4 * w0_59))) 15 x2 ((s.1 15 a) + w0_59))) (fun j129 =>
            gJoin0 (
                j129 1) (fun j124 =>
              if ((s.1 14 a) + (f_X10_price (τ.1 1 v))) + (4 * w0_59) < s.1 14 v then
                j124
              else
                if x2 < 0 ∨ 144 ≤ x2.toNatClampNeg then none else
                gJoin0 (
                    j129 0) (fun j128 =>
                  if ((s.1 14 a) + (f_X10_price (τ.1 1 v))) + (4 * w0_59) = s.1 14 v then
                    if x1 < 0 ∨ 144 ≤ x1.toNatClampNeg then none else
                    if x2 < 0 ∨ 144 ≤ x2.toNatClampNeg then none else
                    if s.1 15 v ≤ (s.1 15 a) + w0_59 then
                      j128
                    else
                      j124
                  else
                    j128)))) (fun j59 =>
          if τ.1 0 v ≤ τ.1 0 a then
            j59 0
          else
            if x2 < 0 ∨ 144 ≤ x2.toNatClampNeg then none else
            if x1 < 0 ∨ 144 ≤ x1.toNatClampNeg then none else
            j59 ((τ.1 0 v) - (τ.1 0 a)))) := by
    intro hall
    have hE : eT τ (x3 ≠ 0) a v := ⟨hn, hall⟩
    refine okf g2 (okf g1 (okz ?_))
    have go : ∀ w : Int32, w.toInt = uT τ a v → Ok (fun q => (q = (0, s) ∧ stab τ (x3 ≠ 0) s a v) ∨ (q.1 = 1 ∧ MR τ (x3 ≠ 0) src s0 q.2 ∧ phi (q.2.1 14) (q.2.1 15) 144 < phi (s.1 14) (s.1 15) 144)) (if x1 < 0 ∨ 144 ≤ x1.toNatClampNeg then none else
            if x2 < 0 ∨ 144 ≤ x2.toNatClampNeg then none else
            if x2 < 0 ∨ 144 ≤ x2.toNatClampNeg then none else
            gJoin1 (fun (w0_129 : Int32) =>
                if w0_129 = 0 then
                  some (w0_129 &&& 1, s)
                else
                  if x2 < 0 ∨ 144 ≤ x2.toNatClampNeg then none else
                  if x1 < 0 ∨ 144 ≤ x1.toNatClampNeg then none else
                  if x2 < 0 ∨ 144 ≤ x2.toNatClampNeg then none else
                  some (w0_129 &&& 1, g_pa (g_pa s 14 x2 (((s.1 14 a) + (f_X10_price (τ.1 1 v))) + (4 * w))) 15 x2 ((s.1 15 a) + w))) (fun j129 =>
            gJoin0 (
                j129 1) (fun j124 =>
              if ((s.1 14 a) + (f_X10_price (τ.1 1 v))) + (4 * w) < s.1 14 v then
                j124
              else
                if x2 < 0 ∨ 144 ≤ x2.toNatClampNeg then none else
                gJoin0 (
                    j129 0) (fun j128 =>
                  if ((s.1 14 a) + (f_X10_price (τ.1 1 v))) + (4 * w) = s.1 14 v then
                    if x1 < 0 ∨ 144 ≤ x1.toNatClampNeg then none else
                    if x2 < 0 ∨ 144 ≤ x2.toNatClampNeg then none else
                    if s.1 15 v ≤ (s.1 15 a) + w then
                      j128
                    else
                      j124
                  else
                    j128)))) := by
      intro w hw
      have ep := price_m (τ.1 1 v)
      have pin := prF_in (τ.1 1 v)
      have e4 : (4 * w).toInt = 4 * uT τ a v := by rw [tmul (by rw [tl4, hw]; omega), tl4, hw]
      have eS : ((s.1 14 a) + (f_X10_price (τ.1 1 v))).toInt = (s.1 14 a).toInt + prF (τ.1 1 v) := by rw [tadd (by rw [ep]; omega), ep]
      have eX : (((s.1 14 a) + (f_X10_price (τ.1 1 v))) + (4 * w)).toInt = (s.1 14 a).toInt + wT τ a v := by
        rw [tadd (by rw [eS, e4]; omega), eS, e4]
        unfold wT
        omega
      have eY : ((s.1 15 a) + w).toInt = (s.1 15 a).toInt + uT τ a v := by rw [tadd (by rw [hw]; omega), hw]
      have less : (s.1 14 v = 1000000000 ∨ (((s.1 14 a) + (f_X10_price (τ.1 1 v))) + (4 * w)).toInt ≤ (s.1 14 v).toInt) → ((s.1 14 a).toInt + wT τ a v).toNat * 2147483648 + ((s.1 15 a).toInt + uT τ a v).toNat < (s.1 14 v).toInt.toNat * 2147483648 + (s.1 15 v).toInt.toNat → Ok (fun q => (q = (0, s) ∧ stab τ (x3 ≠ 0) s a v) ∨ (q.1 = 1 ∧ MR τ (x3 ≠ 0) src s0 q.2 ∧ phi (q.2.1 14) (q.2.1 15) 144 < phi (s.1 14) (s.1 15) 144)) (if (1 : Int32) = 0 then
                  some ((1 : Int32) &&& 1, s)
                else
                  if x2 < 0 ∨ 144 ≤ x2.toNatClampNeg then none else
                  if x1 < 0 ∨ 144 ≤ x1.toNatClampNeg then none else
                  if x2 < 0 ∨ 144 ≤ x2.toNatClampNeg then none else
                  some ((1 : Int32) &&& 1, g_pa (g_pa s 14 x2 (((s.1 14 a) + (f_X10_price (τ.1 1 v))) + (4 * w))) 15 x2 ((s.1 15 a) + w))) := by
        intro hb hl
        refine okf one_ne (okf g2 (okf g1 (okf g2 (Ok.some (Or.inr ⟨(show ((1 : Int32) &&& 1) = 1 by decide), ⟨(hK.pa (by decide)).pa (by decide), hKr.pp, ?_⟩, ?_⟩)))))
        · have := hI.relax (ew_T hT _) (by rw [tlfar]; omega) hE c1 eX eY hb
          have q2 : x2.toInt.toNat = v := by omega
          show MapI _ _ _ _ _ (upd (s.1 14) x2.toInt.toNat _) (upd (s.1 15) x2.toInt.toNat _)
          rw [q2]
          exact this
        · have q2 : x2.toInt.toNat = v := by omega
          show phi (upd (s.1 14) x2.toInt.toNat _) (upd (s.1 15) x2.toInt.toNat _) 144 < _
          rw [q2]
          have := phi_lt (f := s.1 14) (g := s.1 15) (v := v) (x := ((s.1 14 a) + (f_X10_price (τ.1 1 v))) + (4 * w)) (y := (s.1 15 a) + w) (by rw [eX, eY]; exact hl) (143 - v)
          rw [show v + 1 + (143 - v) = 144 by omega] at this
          exact this
      refine okf g1 (okf g2 (okf g2 (okz (ok0 ?_))))
      by_cases c2 : ((s.1 14 a) + (f_X10_price (τ.1 1 v))) + (4 * w) < s.1 14 v
      · refine okt c2 (less ?_ ?_)
        · rw [tlt] at c2
          exact Or.inr (by omega)
        · rw [tlt, eX] at c2
          omega
      · refine okf c2 (okf g2 (ok0 ?_))
        rw [tlt, eX] at c2
        have nf : s.1 14 v ≠ 1000000000 := fun e => by rw [e, tlfar] at c2; omega
        have hV := hI.in_ hv nf
        by_cases c3 : ((s.1 14 a) + (f_X10_price (τ.1 1 v))) + (4 * w) = s.1 14 v
        · refine okt c3 (okf g1 (okf g2 ?_))
          rw [teq, eX] at c3
          by_cases c4 : s.1 15 v ≤ (s.1 15 a) + w
          · refine okt c4 (okt rfl (Ok.some (Or.inl ⟨rfl, fun _ _ => ⟨nf, Or.inr ⟨c3.symm, ?_⟩⟩⟩)))
            rw [tle, eY] at c4
            exact c4
          · refine okf c4 (less ?_ ?_)
            · exact Or.inr (by rw [eX]; omega)
            · rw [tle, eY] at c4
              rw [c3]
              omega
        · refine okf c3 (okt rfl (Ok.some (Or.inl ⟨rfl, fun _ _ => ⟨nf, Or.inl ?_⟩⟩)))
          rw [teq, eX] at c3
          omega
    by_cases c2 : τ.1 0 v ≤ τ.1 0 a
    · refine okt c2 (go 0 ?_)
      rw [tle] at c2
      unfold uT
      rw [tl0]
      omega
    · refine okf c2 (okf g2 (okf g1 (go _ ?_)))
      rw [tle] at c2
      unfold uT
      rw [tsub (by omega)]
      omega
  by_cases c2 : x3 = 0
  · refine okt c2 (okf g2 ?_)
    by_cases c3 : τ.1 1 v = 4
    · exact okt c3 (Ok.some (Or.inl ⟨rfl, fun h => absurd h.2 (fun e => e.elim (fun e => e c2) (fun e => e c3))⟩))
    · exact okf c3 (key (Or.inr c3))
  · exact okf c2 (key (Or.inl c2))
