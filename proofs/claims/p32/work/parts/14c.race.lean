/-! ===== pure: turned maps: the race ===== -/
/-- without the map and the controls' cells -/
def mkA (A : Nat → Nat → Int32) : Nat → Nat → Int32 := fun r => if r < 3 then fun _ => 0 else A r
theorem mkA_cor {τ t : gSt} (h : Tr τ t) : mkA (cor t) = mkA (cor τ) := by
  funext r
  unfold mkA cor
  by_cases c : r < 3
  · rw [if_pos c, if_pos c]
  · rw [if_neg c, if_neg c]
    by_cases d : r ≤ 11
    · rw [if_pos d, if_pos d, h.r (by omega) d]
    · rw [if_neg d, if_neg d]
theorem mkA_at {A : Nat → Nat → Int32} {r : Nat} (h : ¬ r < 3) : mkA A r = A r := if_neg h
theorem mk_kL (A : Nat → Nat → Int32) (i : Nat) : kL (mkA A) i = kL A i := rfl
theorem mk_lL (A : Nat → Nat → Int32) (i : Nat) : lL (mkA A) i = lL A i := rfl
theorem mk_pR (A : Nat → Nat → Int32) (i : Nat) : pR (mkA A) i = pR A i := rfl
theorem mk_cR (A : Nat → Nat → Int32) (i j : Nat) : cR (mkA A) i j = cR A i j := rfl
theorem mk_fR (A : Nat → Nat → Int32) (i j : Nat) : fR (mkA A) i j = fR A i j := rfl
theorem mk_vo (A : Nat → Nat → Int32) (i g : Nat) : vo (mkA A) i g = vo A i g := rfl
theorem mk_skp (A : Nat → Nat → Int32) (i : Nat) : ∀ n j, skp (mkA A) i n j = skp A i n j := by
  intro n
  induction n with
  | zero => intro j; rfl
  | succ n ih =>
    intro j
    unfold skp
    rw [mk_fR, ih]
theorem mk_sk (A : Nat → Nat → Int32) (i j : Nat) : sk (mkA A) i j = sk A i j := by
  unfold sk
  rw [mk_skp, mk_lL]
theorem mk_thr (A : Nat → Nat → Int32) (i : Nat) : ∀ k, thr (mkA A) i k = thr A i k := by
  intro k
  induction k with
  | zero =>
    unfold thr
    rw [mk_sk]
    rfl
  | succ k ih =>
    unfold thr
    rw [ih, mk_sk, mk_lL, mk_cR, mkA_at (A := A) (r := 9) (by decide), mkA_at (A := A) (r := 10) (by decide)]
theorem mk_nX (A : Nat → Nat → Int32) (i : Nat) : nX (mkA A) i = nX A i := by
  unfold nX
  rw [mk_thr, mk_pR]
theorem mk_aT (A : Nat → Nat → Int32) (i : Nat) : aT (mkA A) i = aT A i := by
  unfold aT
  rw [mk_thr, mk_pR]
theorem mk_cT (A : Nat → Nat → Int32) (i : Nat) : cT (mkA A) i = cT A i := by
  unfold cT
  rw [mk_thr, mk_pR]
theorem mk_hpF (A : Nat → Nat → Int32) (i : Nat) : ∀ k, hpF (mkA A) i k = hpF A i k := by
  intro k
  induction k with
  | zero => rfl
  | succ k ih =>
    unfold hpF
    rw [ih, mk_cR, mk_lL, mkA_at (A := A) (r := 9) (by decide)]
theorem mk_stF (A : Nat → Nat → Int32) (i : Nat) : stF (mkA A) i = stF A i := by
  unfold stF
  rw [mk_lL, mk_nX, mk_hpF, mk_pR]
theorem mk_spl (A : Nat → Nat → Int32) (i g : Nat) : spl (mkA A) i g = spl A i g := by
  unfold spl
  rw [mk_vo, mk_aT]
theorem mk_tsum (A : Nat → Nat → Int32) (i : Nat) : ∀ m, tsum (mkA A) i m = tsum A i m := by
  intro m
  induction m with
  | zero => rfl
  | succ m ih =>
    unfold tsum
    rw [ih, mk_spl]
theorem mk_tot (A : Nat → Nat → Int32) (i : Nat) : tot (mkA A) i = tot A i := by
  unfold tot
  rw [mk_stF, mk_tsum, mk_lL]
theorem mk_rkF (A : Nat → Nat → Int32) (i : Nat) : ∀ k, rkF (mkA A) i k = rkF A i k := by
  intro k
  induction k with
  | zero => rfl
  | succ k ih =>
    unfold rkF
    rw [ih, mk_tot, mk_tot, mkA_at (A := A) (r := 6) (by decide)]
theorem mk_sbF (A : Nat → Nat → Int32) (i : Nat) (f t : Int32) : ∀ m, sbF (mkA A) i f t m = sbF A i f t m := by
  intro m
  induction m with
  | zero => rfl
  | succ m ih =>
    unfold sbF
    rw [ih, mk_cR, mk_cR, mk_spl]
theorem mk_bF (A : Nat → Nat → Int32) (f t : Int32) : ∀ k, bF (mkA A) f t k = bF A f t k := by
  intro k
  induction k with
  | zero => rfl
  | succ k ih =>
    unfold bF
    rw [ih, mk_stF, mk_sbF, mk_lL]
theorem mk_bs (A : Nat → Nat → Int32) (n i g : Nat) : bs (mkA A) n i g = bs A n i g := by
  unfold bs
  rw [mk_vo, mk_cR, mk_cR, mk_bF]
theorem mk_sm (A : Nat → Nat → Int32) (n i : Nat) : ∀ m, sm (mkA A) n i m = sm A n i m := by
  intro m
  induction m with
  | zero => rfl
  | succ m ih =>
    unfold sm
    rw [ih, mk_bs]
theorem mk_loF (A : Nat → Nat → Int32) (n i g : Nat) : loF (mkA A) n i g = loF A n i g := by
  unfold loF paceF
  rw [mk_spl, mk_bs, mk_sm, mk_lL, mk_tot]
section Race
variable {τ t : gSt}
theorem Tr.e_stF (h : Tr τ t) (i : Nat) : stF (cor t) i = stF (cor τ) i := by rw [← mk_stF (cor t), mkA_cor h, mk_stF]
theorem Tr.e_tot (h : Tr τ t) (i : Nat) : tot (cor t) i = tot (cor τ) i := by rw [← mk_tot (cor t), mkA_cor h, mk_tot]
theorem Tr.e_rkF (h : Tr τ t) (i n : Nat) : rkF (cor t) i n = rkF (cor τ) i n := by rw [← mk_rkF (cor t), mkA_cor h, mk_rkF]
theorem Tr.e_spl (h : Tr τ t) (i g : Nat) : spl (cor t) i g = spl (cor τ) i g := by rw [← mk_spl (cor t), mkA_cor h, mk_spl]
theorem Tr.e_vo (h : Tr τ t) (i g : Nat) : vo (cor t) i g = vo (cor τ) i g := by rw [← mk_vo (cor t), mkA_cor h, mk_vo]
theorem Tr.e_loF (h : Tr τ t) (n i g : Nat) : loF (cor t) n i g = loF (cor τ) n i g := by rw [← mk_loF (cor t), mkA_cor h, mk_loF]
theorem Tr.e_cT (h : Tr τ t) (i : Nat) : cT (cor t) i = cT (cor τ) i := by rw [← mk_cT (cor t), mkA_cor h, mk_cT]
theorem Tr.e_lL (h : Tr τ t) (i : Nat) : lL (cor t) i = lL (cor τ) i := by rw [← mk_lL (cor t), mkA_cor h, mk_lL]
end Race
theorem Tr.e_isG {τ t : gSt} (h : Tr τ t) {i : Nat} {v : Int32} : isG (cor t) i v ↔ isG (cor τ) i v := by
  unfold isG
  rw [h.e_lL]
theorem Inv.six {τ : gSt} {x : Int32} (h : Inv τ) : Inv (g_sf τ 6 x) := by
  obtain ⟨d1, d2, d3, d4, d5, d6⟩ := h
  exact ⟨d1, d2, d3, d4, d5, d6⟩
theorem sym_stateOf {τ t : gSt} {N : Nat} {x : Int32} (hI : Inv τ) (hI' : Inv t) (hN : 30 < N) (h : Tr τ t) : SymR (f_X10_stateOf N τ x) (f_X10_stateOf N t x) := by
  have hE := hI.2.2.2.1
  have hE' := hI'.2.2.2.1
  unfold f_X10_stateOf
  by_cases hx : isR τ x
  · have hx' := h.run.mpr hx
    obtain ⟨n, i, hn, hxi, hi, n24⟩ := who hE hx
    rw [run_yes hE hx, run_yes hE' hx', asked1, asked1, if_neg one_ne, if_neg one_ne]
    obtain ⟨⟨b, s⟩, e2, hb, hM⟩ := state_m (N := N) (τ := g_sf τ 6 0) hI.six hN hxi (by show (i : Int) < (τ.2 3).toInt; omega)
    obtain ⟨⟨b', s'⟩, e2', hb', hM'⟩ := state_m (N := N) (τ := g_sf t 6 0) hI'.six hN hxi (by show (i : Int) < (t.2 3).toInt; rw [h.1.2.2.2.1]; omega)
    rw [e2, e2', Option.bind_some, Option.bind_some]
    refine SymR.yes ((h.six (x := 0) (y := 0)).keep hM.1 hM'.1) ((six0 hM.1).trans (six0 hM'.1).symm) ?_
    exact hb.trans ((h.six (x := 0) (y := 0)).e_stF i ▸ hb'.symm)
  · rw [run_no hE hx, run_no hE' (fun e => hx (h.run.mp e)), asked0, asked0]
    exact SymR.no h
