/-! ===== pure: the reference's passes end ===== -/
theorem flagJ {T : Type} {P : T → Prop} {q w : Int32} {k : Int32 → Option T} (h : ∀ w', (w' = 0 ∧ q = 0 ∧ w = 0) ∨ (w' = 1 ∧ ¬ (q = 0 ∧ w = 0)) → Ok P (k w')) : Ok P (gJoin1 k (fun j => gJoin0 (j 1) (fun j2 => if q = 0 then if w = 0 then j 0 else j2 else j2))) := by
  refine okz (ok0 ?_)
  by_cases c : q = 0
  · refine okt c ?_
    by_cases c2 : w = 0
    · exact okt c2 (h 0 (Or.inl ⟨rfl, c, c2⟩))
    · exact okf c2 (h 1 (Or.inr ⟨rfl, fun e => c2 e.2⟩))
  · exact okf c (h 1 (Or.inr ⟨rfl, fun e => c e.1⟩))
/-- within a pass: nothing fell yet, or something did -/
def PS (τ : gSt) (all : Prop) (src : Nat) (s0 sB : gSt) (D : Prop) (w : Int32) (s : gSt) : Prop := (w = 0 ∧ s = sB ∧ D) ∨ (w = 1 ∧ MR τ all src s0 s ∧ phi (s.1 14) (s.1 15) 144 < phi (sB.1 14) (sB.1 15) 144)
theorem PS.mr {τ : gSt} {all : Prop} {src : Nat} {s0 sB s : gSt} {D : Prop} {w : Int32} (h : PS τ all src s0 sB D w s) (hB : MR τ all src s0 sB) : MR τ all src s0 s := by
  rcases h with ⟨_, h, _⟩ | ⟨_, h, _⟩
  · rw [h]; exact hB
  · exact h
theorem PS.step {τ : gSt} {all : Prop} {src a v : Nat} {s0 sB s : gSt} {D : Prop} {w w' : Int32} {q : Int32 × gSt} (h : PS τ all src s0 sB D w s) (hq : (q = (0, s) ∧ stab τ all s a v) ∨ (q.1 = 1 ∧ MR τ all src s0 q.2 ∧ phi (q.2.1 14) (q.2.1 15) 144 < phi (s.1 14) (s.1 15) 144)) (hw : (w' = 0 ∧ q.1 = 0 ∧ w = 0) ∨ (w' = 1 ∧ ¬ (q.1 = 0 ∧ w = 0))) : PS τ all src s0 sB (D ∧ stab τ all sB a v) w' q.2 := by
  rcases h with ⟨h1, h2, h3⟩ | ⟨h1, h2, h3⟩
  · subst h2
    rcases hq with ⟨e, g⟩ | ⟨e, g1, g2⟩
    · subst e
      rcases hw with ⟨e, _, _⟩ | ⟨_, e⟩
      · exact Or.inl ⟨e, rfl, h3, g⟩
      · exact absurd ⟨rfl, h1⟩ e
    · rcases hw with ⟨_, e2, _⟩ | ⟨e2, _⟩
      · exact absurd (e.symm.trans e2) one_ne
      · exact Or.inr ⟨e2, g1, g2⟩
  · have ew : w' = 1 := by
      rcases hw with ⟨_, _, e⟩ | ⟨e, _⟩
      · exact absurd (h1.symm.trans e) one_ne
      · exact e
    rcases hq with ⟨e, g⟩ | ⟨e, g1, g2⟩
    · subst e
      exact Or.inr ⟨ew, h2, h3⟩
    · exact Or.inr ⟨ew, g1, by omega⟩
/-- the steps between k and the cells to its right and below are taken -/
def done (τ : gSt) (all : Prop) (sB : gSt) (j : Nat) : Prop := (nbR τ j → stab τ all sB j (j + 1) ∧ stab τ all sB (j + 1) j) ∧ (nbD τ j → stab τ all sB j (j + 12) ∧ stab τ all sB (j + 12) j)
theorem route_m {τ s0 : gSt} {N src : Nat} {x1 x2 : Int32} (hT : InvT τ) (hK0 : Km τ s0) (hN : 1000000000000000000000 < N) (h1 : x1.toInt = src) (hs : src < 144) : Ok (fun s => Km τ s ∧ Kr s0 s ∧ MapI (eT τ (x2 ≠ 0)) (wT τ) (uT τ) src 1000000000 (s.1 14) (s.1 15) ∧ Best (eT τ (x2 ≠ 0)) (wT τ) (uT τ) src (fun v => v < 144 ∧ s.1 14 v ≠ 1000000000) (fun v => (s.1 14 v).toInt) (fun v => (s.1 15 v).toInt)) (f_X10_finds N s0 x1 x2) := by
  have gx := gd (x := x1) (n := 144) (by omega) (by omega)
  have w0 := hT.1
  have w1 := hT.2.1
  have w2 := hT.2.2.1
  have w3 := hT.2.2.2.1
  unfold f_X10_finds
  refine gLoop2_ok (fun m (v : Int32) s => (0 ≤ v.toInt ∧ v.toInt ≤ 144) ∧ (m : Int) = 144 - v.toInt ∧ Km τ s ∧ Kr s0 s ∧ ∀ j : Nat, (j : Int) < v.toInt → s.1 14 j = 1000000000) ?_ N 144 0 s0 (by omega) ⟨by rw [tl0]; omega, by rw [tl0]; rfl, hK0, Kr.rf, fun j hj => by rw [tl0] at hj; omega⟩
  intro m v s self ⟨hv, hm, hK, hKr, h14⟩ ih
  by_cases c : 144 ≤ v
  · rw [tle, tl144] at c
    refine okt (by rw [tle, tl144]; exact c) (okf gx (okf gx ?_))
    clear ih
    have q1 : x1.toInt.toNat = src := by omega
    have hM0 : MR τ (x2 ≠ 0) src s0 (g_pa (g_pa s 14 x1 0) 15 x1 0) := by
      refine ⟨(hK.pa (by decide)).pa (by decide), hKr.pp, MapI.start ?_ ?_ (fun v h1 h2 => ?_) far0⟩
      · show upd (s.1 14) x1.toInt.toNat 0 src = 0
        rw [q1, upd_at, if_pos rfl]
      · show upd (s.1 15) x1.toInt.toNat 0 src = 0
        rw [q1, upd_at, if_pos rfl]
      · show upd (s.1 14) x1.toInt.toNat 0 v = 1000000000
        rw [q1, upd_at, if_neg h2]
        exact h14 v (by omega)
    have hp := phi_le ((g_pa (g_pa s 14 x1 0) 15 x1 0).1 14) ((g_pa (g_pa s 14 x1 0) 15 x1 0).1 15) 144
    refine gLoop2_ok (fun m (v : Int32) s => (v = 1 ∧ m = phi (s.1 14) (s.1 15) 144 + 1 ∧ MR τ (x2 ≠ 0) src s0 s) ∨ (v = 0 ∧ MR τ (x2 ≠ 0) src s0 s ∧ ∀ j, j < 144 → done τ (x2 ≠ 0) s j)) ?_ N (phi ((g_pa (g_pa s 14 x1 0) 15 x1 0).1 14) ((g_pa (g_pa s 14 x1 0) 15 x1 0).1 15) 144 + 1) 1 _ (by omega) (Or.inl ⟨rfl, rfl, hM0⟩)
    intro m v s self hL ih
    rcases hL with ⟨rfl, rfl, hM⟩ | ⟨rfl, hM, hD⟩
    · refine okf one_ne ?_
      refine gLoop3_ok (fun m (w v : Int32) s2 => ∃ k : Nat, k ≤ 144 ∧ (m : Int) = 144 - k ∧ v.toInt = k ∧ PS τ (x2 ≠ 0) src s0 s (∀ j, j < k → done τ (x2 ≠ 0) s j) w s2) ?_ N 144 0 0 s (by omega) ⟨0, by omega, by omega, rfl, Or.inl ⟨rfl, rfl, fun j hj => by omega⟩⟩
      intro m w v s2 self2 ⟨k, hk, hm, hv, hP⟩ ih2
      by_cases c1 : 144 ≤ v
      · refine okt c1 ?_
        rw [tle, tl144, hv] at c1
        rcases hP with ⟨e1, e2, e3⟩ | ⟨e1, e2, e3⟩
        · subst e2
          exact ih 0 w s2 (by omega) (Or.inr ⟨e1, hM, fun j hj => e3 j (by omega)⟩)
        · exact ih _ w s2 (by omega) (Or.inl ⟨e1, rfl, e2⟩)
      · refine okf c1 (ok2 ?_)
        rw [tle, tl144, hv] at c1
        have hM2 := hP.mr hM
        have ed := div12 (v := v) (by omega)
        have em := mod12 (v := v) (by omega)
        rw [hv] at ed em
        have e1 := inc1 (v := v) (n := 144) (by omega) (by omega)
        have e12 : (v + 12).toInt = (k + 12 : Nat) := by rw [tadd (by rw [tl12]; omega), tl12, hv]; omega
        have f0 : s2.2 0 = τ.2 0 := hM2.1.2 0 (by decide)
        have f1 : s2.2 1 = τ.2 1 := hM2.1.2 1 (by decide)
        have hT2 : InvT s2 := (Km.mp hM2.1).invT hT
        have hcell : (onK τ k → f_X10_isCell s2 (v - v / 12 * 12) (v / 12) = 1) ∧ (¬ onK τ k → f_X10_isCell s2 (v - v / 12 * 12) (v / 12) = 0) := by
          refine ⟨fun h => cell_yes hT2 ?_, fun h => cell_no hT2 (fun g => h ?_)⟩
          · unfold onMap
            rw [f0, f1, ed, em]
            have h1 := h.1
            have h2 := h.2
            omega
          · unfold onMap at g
            rw [f0, f1, ed, em] at g
            unfold onK
            omega
        have eR : (v - v / 12 * 12 + 1).toInt = k % 12 + 1 := by rw [inc1 (n := 12) (by rw [em]; omega) (by omega), em]
        have eD : (v / 12 + 1).toInt = k / 12 + 1 := by rw [inc1 (n := 13) (by rw [ed]; omega) (by omega), ed]
        -- what stands behind the cell
        have nxt : ∀ w3 s3, PS τ (x2 ≠ 0) src s0 s ((∀ j, j < k → done τ (x2 ≠ 0) s j) ∧ done τ (x2 ≠ 0) s k) w3 s3 → Ok (fun s => Km τ s ∧ Kr s0 s ∧ MapI (eT τ (x2 ≠ 0)) (wT τ) (uT τ) src 1000000000 (s.1 14) (s.1 15) ∧ Best (eT τ (x2 ≠ 0)) (wT τ) (uT τ) src (fun v => v < 144 ∧ s.1 14 v ≠ 1000000000) (fun v => (s.1 14 v).toInt) (fun v => (s.1 15 v).toInt)) (self2 w3 (v + 1) s3) := fun w3 s3 h => ih2 (m - 1) w3 (v + 1) s3 (by omega) ⟨k + 1, by omega, by omega, by omega, by
          rcases h with ⟨a1, a2, a3, a4⟩ | h
          · refine Or.inl ⟨a1, a2, fun j hj => ?_⟩
            by_cases e : j = k
            · rw [e]; exact a4
            · exact a3 j (by omega)
          · exact Or.inr h⟩
        -- the second half: below
        have half : ∀ w3 s3, PS τ (x2 ≠ 0) src s0 s ((∀ j, j < k → done τ (x2 ≠ 0) s j) ∧ (nbR τ k → stab τ (x2 ≠ 0) s k (k + 1) ∧ stab τ (x2 ≠ 0) s (k + 1) k)) w3 s3 → Ok (fun s => Km τ s ∧ Kr s0 s ∧ MapI (eT τ (x2 ≠ 0)) (wT τ) (uT τ) src 1000000000 (s.1 14) (s.1 15) ∧ Best (eT τ (x2 ≠ 0)) (wT τ) (uT τ) src (fun v => v < 144 ∧ s.1 14 v ≠ 1000000000) (fun v => (s.1 14 v).toInt) (fun v => (s.1 15 v).toInt)) (gJoin2 (fun (v3_216 : Int32) (s_216 : gSt) =>
                      self2 v3_216 (v + 1) s_216) (fun j216 =>
                    if f_X10_isCell s2 (v - v / 12 * 12) (v / 12) = 0 then
                      j216 w3 s3
                    else
                      if s3.2 1 ≤ (v / 12) + 1 then
                        j216 w3 s3
                      else
                        (f_X10_falls N s3 v (v + 12) x2).bind (fun (q_175 : Int32 × gSt) =>
                        gJoin1 (fun (w0_190 : Int32) =>
                            (f_X10_falls N q_175.2 (v + 12) v x2).bind (fun (q_200 : Int32 × gSt) =>
                            gJoin1 (fun (w0_215 : Int32) =>
                                j216 w0_215 q_200.2) (fun j215 =>
                            gJoin0 (
                                j215 1) (fun j210 =>
                              if q_200.1 = 0 then
                                if w0_190 = 0 then
                                  j215 0
                                else
                                  j210
                              else
                                j210)))) (fun j190 =>
                        gJoin0 (
                            j190 1) (fun j185 =>
                          if q_175.1 = 0 then
                            if w3 = 0 then
                              j190 0
                            else
                              j185
                          else
                            j185))))) := by
          intro w3 s3 h3
          have hM3 := h3.mr hM
          have g1 : s3.2 1 = τ.2 1 := hM3.1.2 1 (by decide)
          have skip : ¬ nbD τ k → Ok (fun s => Km τ s ∧ Kr s0 s ∧ MapI (eT τ (x2 ≠ 0)) (wT τ) (uT τ) src 1000000000 (s.1 14) (s.1 15) ∧ Best (eT τ (x2 ≠ 0)) (wT τ) (uT τ) src (fun v => v < 144 ∧ s.1 14 v ≠ 1000000000) (fun v => (s.1 14 v).toInt) (fun v => (s.1 15 v).toInt)) (self2 w3 (v + 1) s3) := fun hn => nxt w3 s3 (by
            rcases h3 with ⟨a1, a2, a3, a4⟩ | h3
            · exact Or.inl ⟨a1, a2, a3, a4, fun e => absurd e hn⟩
            · exact Or.inr h3)
          refine ok2 ?_
          by_cases c2 : onK τ k
          · refine okf (by rw [hcell.1 c2]; exact one_ne) ?_
            rw [g1]
            by_cases c3 : nbD τ k
            · refine okf (by rw [tle, eD]; have := c3.2; omega) ?_
              refine (falls_m hT hM3 hv e12 (Or.inr (Or.inr (Or.inl ⟨c3, rfl⟩)))).bind (fun q hq => flagJ (fun w4 hw4 => ?_))
              have h4 := h3.step hq hw4
              refine (falls_m hT (h4.mr hM) e12 hv (Or.inr (Or.inr (Or.inr ⟨c3, rfl⟩)))).bind (fun q2 hq2 => flagJ (fun w5 hw5 => ?_))
              have h5 := h4.step hq2 hw5
              refine nxt w5 q2.2 ?_
              rcases h5 with ⟨a1, a2, ⟨⟨a3, a4⟩, a5⟩, a6⟩ | h5
              · exact Or.inl ⟨a1, a2, a3, a4, fun _ => ⟨a5, a6⟩⟩
              · exact Or.inr h5
            · exact okt (by rw [tle, eD]; have : ¬ (((k / 12 : Nat) : Int) + 1 < (τ.2 1).toInt) := fun g => c3 ⟨c2, g⟩; omega) (skip c3)
          · exact okt (hcell.2 c2) (skip (fun e => c2 e.1))
        have skip : ¬ nbR τ k → Ok (fun s => Km τ s ∧ Kr s0 s ∧ MapI (eT τ (x2 ≠ 0)) (wT τ) (uT τ) src 1000000000 (s.1 14) (s.1 15) ∧ Best (eT τ (x2 ≠ 0)) (wT τ) (uT τ) src (fun v => v < 144 ∧ s.1 14 v ≠ 1000000000) (fun v => (s.1 14 v).toInt) (fun v => (s.1 15 v).toInt)) _ := fun hn => half w s2 (by
            rcases hP with ⟨a1, a2, a3⟩ | hP
            · exact Or.inl ⟨a1, a2, a3, fun e => absurd e hn⟩
            · exact Or.inr hP)
        by_cases c2 : onK τ k
        · refine okf (by rw [hcell.1 c2]; exact one_ne) ?_
          by_cases c3 : nbR τ k
          · refine okf (by rw [f0, tle, eR]; have := c3.2; omega) ?_
            refine (falls_m hT hM2 hv (show (v + 1).toInt = (k + 1 : Nat) by omega) (Or.inl ⟨c3, rfl⟩)).bind (fun q hq => flagJ (fun w4 hw4 => ?_))
            have h4 := hP.step hq hw4
            refine (falls_m hT (h4.mr hM) (show (v + 1).toInt = (k + 1 : Nat) by omega) hv (Or.inr (Or.inl ⟨c3, rfl⟩))).bind (fun q2 hq2 => flagJ (fun w5 hw5 => ?_))
            have h5 := h4.step hq2 hw5
            refine half w5 q2.2 ?_
            rcases h5 with ⟨a1, a2, ⟨a3, a4⟩, a5⟩ | h5
            · exact Or.inl ⟨a1, a2, a3, fun _ => ⟨a4, a5⟩⟩
            · exact Or.inr h5
          · exact okt (by rw [f0, tle, eR]; have : ¬ (((k % 12 : Nat) : Int) + 1 < (τ.2 0).toInt) := fun g => c3 ⟨c2, g⟩; omega) (skip c3)
        · exact okt (hcell.2 c2) (skip (fun e => c2 e.1))
    · refine okt rfl (Ok.some ⟨hM.1, hM.2.1, hM.2.2, hM.2.2.best far0 hs (ew_T hT _) (fun a v he hf => ?_)⟩)
      have hst : stab τ (x2 ≠ 0) s a v := by
        obtain ⟨-, -, ha, hv, -⟩ := nb_in hT he.1
        rcases he.1 with ⟨h, e⟩ | ⟨h, e⟩ | ⟨h, e⟩ | ⟨h, e⟩
        · rw [e]; exact ((hD a ha).1 h).1
        · rw [e]; exact ((hD v hv).1 h).2
        · rw [e]; exact ((hD a ha).2 h).1
        · rw [e]; exact ((hD v hv).2 h).2
      exact hst he hf
  · rw [tle, tl144] at c
    have g := gd (x := v) (n := 144) (by omega) (by omega)
    have e1 := inc1 (v := v) (n := 144) (by omega) (by omega)
    refine okf (by rw [tle, tl144]; exact c) (okf g (okf g (ih (m - 1) (v + 1) _ (by omega) ⟨by rw [e1]; omega, by rw [e1]; omega, (hK.pa (by decide)).pa (by decide), hKr.pp, fun j hj => ?_⟩)))
    rw [e1] at hj
    show upd (s.1 14) v.toInt.toNat 1000000000 j = 1000000000
    rw [upd_at]
    by_cases e : j = v.toInt.toNat
    · rw [if_pos e]
    · rw [if_neg e]
      exact h14 j (by omega)
