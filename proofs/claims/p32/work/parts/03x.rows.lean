/-! Row: its four methods, on any row of the class's world -/
theorem gLen_le (r : Nat) : gLen r ≤ 480 := by
  unfold gLen
  split <;> decide
def gget (σ : gSt) (r : Nat) (i : Int32) : Int32 := if i < 0 then -1 else if Int32.ofNat (gLen r) ≤ i then -1 else g_ga σ r i
def gput (σ : gSt) (r : Nat) (i x : Int32) : gSt := if i < 0 then σ else if Int32.ofNat (gLen r) ≤ i then σ else g_pa σ r i x
def gfl (σ : gSt) (r : Nat) (x : Int32) (i : Nat) : gSt := g_sa σ r (fun j => if j < i then x else σ.1 r j)
def gfill (σ : gSt) (r : Nat) (x : Int32) : gSt := gfl σ r x (gLen r)
def ginc (σ : gSt) (r : Nat) (i x : Int32) : gSt := gput σ r i (gget σ r i + x)
theorem gfl_zero (σ : gSt) (r : Nat) (x : Int32) : gfl σ r x 0 = σ := by
  refine Prod.ext (funext fun j => ?_) rfl
  show (if j = r then _ else _) = _
  by_cases h : j = r
  · rw [if_pos h, h]; rfl
  · rw [if_neg h]
theorem g_ofN {i : Nat} (h : i < 2147483648) : (Int32.ofNat i).toNatClampNeg = i := by
  have e : (Int32.ofNat i).toInt = i := Int32.toInt_ofNat_of_lt h
  show (Int32.ofNat i).toInt.toNat = i
  rw [e]; rfl
theorem gfl_step (σ : gSt) (r : Nat) (x : Int32) (i : Nat) (h : i < 2147483648) : g_pa (gfl σ r x i) r (Int32.ofNat i) x = gfl σ r x (i + 1) := by
  refine Prod.ext (funext fun j => ?_) rfl
  show (if j = r then upd ((gfl σ r x i).1 r) (Int32.ofNat i).toNatClampNeg x else (gfl σ r x i).1 j) = (if j = r then _ else _)
  by_cases hj : j = r
  · rw [if_pos hj, if_pos hj, g_ofN h]
    funext k
    show (if k = i then x else (if r = r then (fun j => if j < i then x else σ.1 r j) else σ.1 r) k) = _
    rw [if_pos rfl]
    by_cases hk : k = i
    · rw [if_pos hk, if_pos (by omega)]
    · rw [if_neg hk]
      by_cases h2 : k < i
      · rw [if_pos h2, if_pos (by omega)]
      · rw [if_neg h2, if_neg (by omega)]
  · rw [if_neg hj, if_neg hj]
    show (if j = r then _ else σ.1 j) = _
    rw [if_neg hj]
theorem g_vin {i : Int32} {N : Nat} (hN : N < 2147483648) (h1 : ¬ i < 0) (h2 : ¬ Int32.ofNat N ≤ i) : vp_in i N := by
  have e : (Int32.ofNat N).toInt = N := Int32.toInt_ofNat_of_lt hN
  rw [Int32.le_iff_toInt_le, e] at h2
  intro h
  rcases h with h | h
  · exact h1 h
  · have e2 : i.toNatClampNeg = i.toInt.toNat := rfl
    rw [e2] at h
    rw [Int32.lt_iff_toInt_lt, show (0 : Int32).toInt = 0 from rfl] at h1
    omega
abbrev rmX7_get : Room := { frames := 0, cells := 0, slots := 0, locals := 0 }
abbrev rmX7_put : Room := { frames := 0, cells := 0, slots := 0, locals := 0 }
abbrev rmX7_fill : Room := { frames := 0, cells := 0, slots := 0, locals := 0 }
abbrev rmX7_increase : Room := { frames := 1, cells := 0, slots := 0, locals := 22 }
theorem kb_X7_get : g_CB yX7_get cX7_get 2 (some .int) 1 := ⟨kc_X7_get, kn_X7, by decide +kernel⟩
theorem kb_X7_put : g_CB yX7_put cX7_put 3 none 2 := ⟨kc_X7_put, kn_X7, by decide +kernel⟩
theorem kb_X7_fill : g_CB yX7_fill cX7_fill 3 none 1 := ⟨kc_X7_fill, kn_X7, by decide +kernel⟩
theorem kb_X7_increase : g_CB yX7_increase cX7_increase 3 none 2 := ⟨kc_X7_increase, kn_X7, by decide +kernel⟩
set_option maxRecDepth 100000 in
theorem c_X7_get (l : Launch) (D : va_G) (a : Nat → Nat) (cI : ClassId) (hj : g_Inj 65 a) (σ : gSt) (r : Nat) (hr : r < 28) (x1 : Int32) : Met l yX7_get (Cond.code yX7_get cX7_get 2 (some .int) :: gW) rmX7_get (g_Pc 65 D a (gE a cI σ) [(cI, .int)] [.ref (a (9 + r)), .int x1]) (g_Qi 65 D a (gE a cI σ) (gget σ r x1)) 0 0 (g_Own 65 a) := by
  generalize hh : gget σ r x1 = out
  refine g_meti (by decide) hj (Nat.le_of_ble_eq_true rfl) ?_
  intro p e s m args below meth c Q ls F hl hI hq
  have hx := F.1.1
  have hb := F.1.2.1
  have hl : lv_has ls 2 [(0, .ref (a (9 + r))), (1, .int x1)] := hl
  have h := hh
  unfold gget at h
  have hN := gLen_le r
  refine lv_iload_n hx hb dX7_get_0 rfl (lv_at hl 1 rfl) ?_
  refine lv_if_lt (tgt := 22) hx hb dX7_get_1 (by decide) (fun c1 => ?_) (fun c1 => ?_)
  · have h := (if_pos c1).symm.trans h
    refine lv_iconst (v := -1) hx hb dX7_get_22 (by decide) ?_
    subst h
    exact hq _ _ _ _ hI dX7_get_23
  · have h := (if_neg c1).symm.trans h
    refine lv_iload_n hx hb dX7_get_4 rfl (lv_at hl 1 rfl) ?_
    refine lv_aload_n hx hb dX7_get_5 rfl (lv_at hl 0 rfl) ?_
    refine g_get F hI (by omega) (gE_row hr) rfl ku_X7 0 (by decide) kf_X7_15 rfl dX7_get_6 ?_
    refine g_alen F hI (by omega) gE_arr 0 rfl rfl dX7_get_9 ?_
    refine lv_icmp_ge (tgt := 22) hx hb dX7_get_10 (by decide) (fun c2 => ?_) (fun c2 => ?_)
    · have h := (if_pos c2).symm.trans h
      refine lv_iconst (v := -1) hx hb dX7_get_22 (by decide) ?_
      subst h
      exact hq _ _ _ _ hI dX7_get_23
    · have h := (if_neg c2).symm.trans h
      refine lv_aload_n hx hb dX7_get_13 rfl (lv_at hl 0 rfl) ?_
      refine g_get F hI (by omega) (gE_row hr) rfl ku_X7 0 (by decide) kf_X7_15 rfl dX7_get_14 ?_
      refine lv_iload_n hx hb dX7_get_17 rfl (lv_at hl 1 rfl) ?_
      refine g_iald F hI (by omega) gE_arr 0 rfl (g_vin (by omega) c1 c2) dX7_get_18 ?_
      refine lv_goto (tgt := 23) hx hb dX7_get_19 (by decide) ?_
      subst h
      exact hq _ _ _ _ hI dX7_get_23
set_option maxRecDepth 100000 in
theorem c_X7_put (l : Launch) (D : va_G) (a : Nat → Nat) (cI : ClassId) (hj : g_Inj 65 a) (σ : gSt) (r : Nat) (hr : r < 28) (x1 x2 : Int32) : Met l yX7_put (Cond.code yX7_put cX7_put 3 none :: gW) rmX7_put (g_Pc 65 D a (gE a cI σ) [(cI, .int)] [.ref (a (9 + r)), .int x1, .int x2]) (g_Qv 65 D a (gE a cI (gput σ r x1 x2))) 0 0 (g_Own 65 a) := by
  generalize hh : gput σ r x1 x2 = out
  refine g_metv (by decide) hj (Nat.le_of_ble_eq_true rfl) ?_
  intro p e s m args below meth c Q ls F hl hI hq
  have hx := F.1.1
  have hb := F.1.2.1
  have hl : lv_has ls 3 [(0, .ref (a (9 + r))), (1, .int x1), (2, .int x2)] := hl
  have h := hh
  unfold gput at h
  have hN := gLen_le r
  refine lv_iload_n hx hb dX7_put_0 rfl (lv_at hl 1 rfl) ?_
  refine lv_if_lt (tgt := 20) hx hb dX7_put_1 (by decide) (fun c1 => ?_) (fun c1 => ?_)
  · have h := (if_pos c1).symm.trans h
    subst h
    exact hq _ _ _ _ hI dX7_put_20
  · have h := (if_neg c1).symm.trans h
    refine lv_iload_n hx hb dX7_put_4 rfl (lv_at hl 1 rfl) ?_
    refine lv_aload_n hx hb dX7_put_5 rfl (lv_at hl 0 rfl) ?_
    refine g_get F hI (by omega) (gE_row hr) rfl ku_X7 0 (by decide) kf_X7_15 rfl dX7_put_6 ?_
    refine g_alen F hI (by omega) gE_arr 0 rfl rfl dX7_put_9 ?_
    refine lv_icmp_ge (tgt := 20) hx hb dX7_put_10 (by decide) (fun c2 => ?_) (fun c2 => ?_)
    · have h := (if_pos c2).symm.trans h
      subst h
      exact hq _ _ _ _ hI dX7_put_20
    · have h := (if_neg c2).symm.trans h
      refine lv_aload_n hx hb dX7_put_13 rfl (lv_at hl 0 rfl) ?_
      refine g_get F hI (by omega) (gE_row hr) rfl ku_X7 0 (by decide) kf_X7_15 rfl dX7_put_14 ?_
      refine lv_iload_n hx hb dX7_put_17 rfl (lv_at hl 1 rfl) ?_
      refine lv_iload_n hx hb dX7_put_18 rfl (lv_at hl 2 rfl) ?_
      refine g_iast (E' := gE a cI (g_pa σ r x1 x2)) F hI (by omega) gE_arr 0 rfl (g_vin (by omega) c1 c2) (gE_arr.trans (by rw [show (g_pa σ r x1 x2).1 r = upd (σ.1 r) x1.toNatClampNeg x2 from if_pos rfl])) gE_sa dX7_put_19 (fun H locs hI => ?_)
      subst h
      exact hq _ _ _ _ hI dX7_put_20
set_option maxRecDepth 100000 in
theorem c_X7_fill (l : Launch) (D : va_G) (a : Nat → Nat) (cI : ClassId) (hj : g_Inj 65 a) (σ : gSt) (r : Nat) (hr : r < 28) (x1 : Int32) : Met l yX7_fill (Cond.code yX7_fill cX7_fill 3 none :: gW) rmX7_fill (g_Pc 65 D a (gE a cI σ) [(cI, .int)] [.ref (a (9 + r)), .int x1]) (g_Qv 65 D a (gE a cI (gfill σ r x1))) 0 0 (g_Own 65 a) := by
  refine g_metv (by decide) hj (Nat.le_of_ble_eq_true rfl) ?_
  intro p e s m args below meth c Q ls F hl hI hq
  have hx := F.1.1
  have hb := F.1.2.1
  have hl : lv_has ls 3 [(0, .ref (a (9 + r))), (1, .int x1)] := hl
  have hN := gLen_le r
  refine lv_iconst (v := 0) hx hb dX7_fill_0 (by decide) ?_
  refine lv_istore_n (lv' := [(2, .int 0), (0, .ref (a (9 + r))), (1, .int x1)]) hx hb dX7_fill_1 rfl hl (by decide) rfl (fun ls hl => ?_)
  have L : ∀ (n i : Nat) (H : Heap) (locs : List Loc) (ls : Array Slot), i ≤ gLen r → gLen r < i + n → g_S 65 D a (gE a cI (gfl σ r x1 i)) s.heap H locs → lv_has ls 3 [(2, .int (Int32.ofNat i)), (0, .ref (a (9 + r))), (1, .int x1)] → W p l e rmX7_fill s m args below meth c H locs 0 0 Q (F0 m 2 ls []) := by
    intro n
    induction n with
    | zero => intro i H locs ls h1 h2; omega
    | succ n ih =>
      intro i H locs ls h1 h2 hI hl
      refine lv_iload_n hx hb dX7_fill_2 rfl (lv_at hl 0 rfl) ?_
      refine lv_aload_n hx hb dX7_fill_3 rfl (lv_at hl 1 rfl) ?_
      refine g_get F hI (by omega) (gE_row hr) rfl ku_X7 0 (by decide) kf_X7_15 rfl dX7_fill_4 ?_
      refine g_alen F hI (by omega) gE_arr 0 rfl rfl dX7_fill_7 ?_
      have ev : gLen r ≤ i ↔ Int32.ofNat (gLen r) ≤ Int32.ofNat i := (Int32.ofNat_le_ofNat (by omega) (by omega)).symm
      refine lv_icmp_ge (tgt := 24) hx hb dX7_fill_8 (by decide) (fun c1 => ?_) (fun c1 => ?_)
      · have c2 := ev.mpr c1
        obtain rfl : i = gLen r := by omega
        exact hq _ _ _ _ hI dX7_fill_24
      · have c2 : ¬ gLen r ≤ i := fun h => c1 (ev.mp h)
        refine lv_aload_n hx hb dX7_fill_11 rfl (lv_at hl 1 rfl) ?_
        refine g_get F hI (by omega) (gE_row hr) rfl ku_X7 0 (by decide) kf_X7_15 rfl dX7_fill_12 ?_
        refine lv_iload_n hx hb dX7_fill_15 rfl (lv_at hl 0 rfl) ?_
        refine lv_iload_n hx hb dX7_fill_16 rfl (lv_at hl 2 rfl) ?_
        have hin : vp_in (Int32.ofNat i) (gLen r) := vp_in_nI (by omega) (by omega)
        refine g_iast (E' := gE a cI (gfl σ r x1 (i + 1))) F hI (by omega) gE_arr 0 rfl hin (by
          rw [← gfl_step σ r x1 i (by omega)]
          exact gE_arr.trans (by rw [show (g_pa (gfl σ r x1 i) r (Int32.ofNat i) x1).1 r = upd ((gfl σ r x1 i).1 r) (Int32.ofNat i).toNatClampNeg x1 from if_pos rfl])) (by
          rw [← gfl_step σ r x1 i (by omega)]
          exact gE_sa) dX7_fill_17 (fun H locs hI => ?_)
        refine lv_iinc (v := Int32.ofNat (i + 1)) (lv' := [(2, .int (Int32.ofNat (i + 1))), (0, .ref (a (9 + r))), (1, .int x1)]) hx hb dX7_fill_18 hl (k := 0) rfl (by rw [inc_ofNat]; rfl) (by decide) rfl (fun ls hl => ?_)
        refine lv_goto (tgt := 2) hx hb dX7_fill_21 (by decide) ?_
        exact ih (i + 1) H locs ls (by omega) (by omega) hI hl
  refine L (gLen r + 1) 0 _ _ _ (Nat.zero_le _) (by omega) (by rw [gfl_zero]; exact hI) hl
section GR
variable {p : Program} {l : Launch} {e : Env} {R : Room} {s : State} {m : MethodId} {args : Array Value} {below : List Frame} {meth : Method} {c : Code} {H : Heap} {locs : List Loc} {cells slots : Nat} {Q : State → Prop} {cc : ByteArray} {nL : Nat} {own : String} {D : va_G} {cI : ClassId} {a : Nat → Nat} {σ : gSt} {pc index : Nat} {ls : Array Slot} {rest : List Value} {i x : Int32}
theorem g_rget (F : g_F p m c cc nL s args own D [(cI, .int)] 65 a) (hI : g_S 65 D a (gE a cI σ) s.heap H locs) (r : Nat) (hr : r < 28) (h1 : Cond.methodLink own index yX7_get ∈ gW) (hR : 1 ≤ R.frames ∧ 21 ≤ R.locals) (hls : ls.size = nL) (hW : (rest.map fun v => v.category).sum ≤ 8) (hcs : cells ≤ R.cells ∧ slots ≤ R.slots) (hdg : decode cc pc = .ok (.invokevirtual index, 3))
    (kk : ∀ (H1 : Heap) (locs1 : List Loc), g_S 65 D a (gE a cI σ) s.heap H1 locs1 → W p l e R s m args below meth c H1 locs1 cells slots Q (F0 m (pc + 3) ls (.int (gget σ r i) :: rest))) : W p l e R s m args below meth c H locs cells slots Q (F0 m pc ls (.int i :: .ref (a (9 + r)) :: rest)) :=
  g_callVi F hI (c_X7_get l D a cI F.2.2 σ r hr i) kb_X7_get ki_X7_get ks_X7_get h1 ⟨hR.1, hR.2, rfl, rfl⟩ (by omega) (gE_row hr) rfl hls rfl hW hcs hdg kk
theorem g_rput (F : g_F p m c cc nL s args own D [(cI, .int)] 65 a) (hI : g_S 65 D a (gE a cI σ) s.heap H locs) (r : Nat) (hr : r < 28) (h1 : Cond.methodLink own index yX7_put ∈ gW) (hR : 1 ≤ R.frames ∧ 22 ≤ R.locals) (hls : ls.size = nL) (hW : (rest.map fun v => v.category).sum ≤ 8) (hcs : cells ≤ R.cells ∧ slots ≤ R.slots) (hdg : decode cc pc = .ok (.invokevirtual index, 3))
    (kk : ∀ (H1 : Heap) (locs1 : List Loc), g_S 65 D a (gE a cI (gput σ r i x)) s.heap H1 locs1 → W p l e R s m args below meth c H1 locs1 cells slots Q (F0 m (pc + 3) ls rest)) : W p l e R s m args below meth c H locs cells slots Q (F0 m pc ls (.int x :: .int i :: .ref (a (9 + r)) :: rest)) :=
  g_callVv F hI (c_X7_put l D a cI F.2.2 σ r hr i x) kb_X7_put ki_X7_put ks_X7_put h1 ⟨hR.1, hR.2, rfl, rfl⟩ (by omega) (gE_row hr) rfl hls rfl hW hcs hdg kk
theorem g_rfill (F : g_F p m c cc nL s args own D [(cI, .int)] 65 a) (hI : g_S 65 D a (gE a cI σ) s.heap H locs) (r : Nat) (hr : r < 28) (h1 : Cond.methodLink own index yX7_fill ∈ gW) (hR : 1 ≤ R.frames ∧ 22 ≤ R.locals) (hls : ls.size = nL) (hW : (rest.map fun v => v.category).sum ≤ 8) (hcs : cells ≤ R.cells ∧ slots ≤ R.slots) (hdg : decode cc pc = .ok (.invokevirtual index, 3))
    (kk : ∀ (H1 : Heap) (locs1 : List Loc), g_S 65 D a (gE a cI (gfill σ r x)) s.heap H1 locs1 → W p l e R s m args below meth c H1 locs1 cells slots Q (F0 m (pc + 3) ls rest)) : W p l e R s m args below meth c H locs cells slots Q (F0 m pc ls (.int x :: .ref (a (9 + r)) :: rest)) :=
  g_callVv F hI (c_X7_fill l D a cI F.2.2 σ r hr x) kb_X7_fill ki_X7_fill ks_X7_fill h1 ⟨hR.1, hR.2, rfl, rfl⟩ (by omega) (gE_row hr) rfl hls rfl hW hcs hdg kk
end GR
set_option maxRecDepth 100000 in
theorem c_X7_increase (l : Launch) (D : va_G) (a : Nat → Nat) (cI : ClassId) (hj : g_Inj 65 a) (σ : gSt) (r : Nat) (hr : r < 28) (x1 x2 : Int32) : Met l yX7_increase (Cond.code yX7_increase cX7_increase 3 none :: gW) rmX7_increase (g_Pc 65 D a (gE a cI σ) [(cI, .int)] [.ref (a (9 + r)), .int x1, .int x2]) (g_Qv 65 D a (gE a cI (ginc σ r x1 x2))) 0 0 (g_Own 65 a) := by
  refine g_metv (by decide) hj (Nat.le_of_ble_eq_true rfl) ?_
  intro p e s m args below meth c Q ls F hl hI hq
  have hx := F.1.1
  have hb := F.1.2.1
  have hl : lv_has ls 3 [(0, .ref (a (9 + r))), (1, .int x1), (2, .int x2)] := hl
  refine lv_aload_n hx hb dX7_increase_0 rfl (lv_at hl 0 rfl) ?_
  refine lv_iload_n hx hb dX7_increase_1 rfl (lv_at hl 1 rfl) ?_
  refine lv_aload_n hx hb dX7_increase_2 rfl (lv_at hl 0 rfl) ?_
  refine lv_iload_n hx hb dX7_increase_3 rfl (lv_at hl 1 rfl) ?_
  refine g_rget F hI r hr km_X7_21 ⟨Nat.le_of_ble_eq_true rfl, Nat.le_of_ble_eq_true rfl⟩ hl.1 (Nat.le_of_ble_eq_true rfl) ⟨Nat.zero_le _, Nat.zero_le _⟩ dX7_increase_4 (fun H locs hI => ?_)
  refine lv_iload_n hx hb dX7_increase_7 rfl (lv_at hl 2 rfl) ?_
  refine lv_iadd hx hb dX7_increase_8 ?_
  refine g_rput F hI r hr km_X7_25 ⟨Nat.le_of_ble_eq_true rfl, Nat.le_of_ble_eq_true rfl⟩ hl.1 (Nat.le_of_ble_eq_true rfl) ⟨Nat.zero_le _, Nat.zero_le _⟩ dX7_increase_9 (fun H locs hI => ?_)
  exact hq _ _ _ _ hI dX7_increase_12
section GR2
variable {p : Program} {l : Launch} {e : Env} {R : Room} {s : State} {m : MethodId} {args : Array Value} {below : List Frame} {meth : Method} {c : Code} {H : Heap} {locs : List Loc} {cells slots : Nat} {Q : State → Prop} {cc : ByteArray} {nL : Nat} {own : String} {D : va_G} {cI : ClassId} {a : Nat → Nat} {σ : gSt} {pc index : Nat} {ls : Array Slot} {rest : List Value} {i x : Int32} {tys : List (ClassId × FieldType)} {n : Nat}
theorem g_rinc (F : g_F p m c cc nL s args own D [(cI, .int)] 65 a) (hI : g_S 65 D a (gE a cI σ) s.heap H locs) (r : Nat) (hr : r < 28) (h1 : Cond.methodLink own index yX7_increase ∈ gW) (hR : 2 ≤ R.frames ∧ 44 ≤ R.locals) (hls : ls.size = nL) (hW : (rest.map fun v => v.category).sum ≤ 8) (hcs : cells ≤ R.cells ∧ slots ≤ R.slots) (hdg : decode cc pc = .ok (.invokevirtual index, 3))
    (kk : ∀ (H1 : Heap) (locs1 : List Loc), g_S 65 D a (gE a cI (ginc σ r i x)) s.heap H1 locs1 → W p l e R s m args below meth c H1 locs1 cells slots Q (F0 m (pc + 3) ls rest)) : W p l e R s m args below meth c H locs cells slots Q (F0 m pc ls (.int x :: .int i :: .ref (a (9 + r)) :: rest)) :=
  g_callVv F hI (c_X7_increase l D a cI F.2.2 σ r hr i x) kb_X7_increase ki_X7_increase ks_X7_increase h1 ⟨hR.1, hR.2, rfl, rfl⟩ (by omega) (gE_row hr) rfl hls rfl hW hcs hdg kk
theorem g_mmax (F : g_F p m c cc nL s args own D tys n a) (hls : ls.size = nL) (h1 : Cond.methodLink own index Lib.Math.max.name ∈ gW) (hR : 1 ≤ R.frames ∧ 13 + (rest.map fun v => v.category).sum ≤ R.locals) (hcs : cells ≤ R.cells ∧ slots ≤ R.slots) (hdg : decode cc pc = .ok (.invokestatic index, 3))
    (kk : W p l e R s m args below meth c H locs cells slots Q (F0 m (pc + 3) ls (.int (jmax i x) :: rest))) : W p l e R s m args below meth c H locs cells slots Q (F0 m pc ls (.int x :: .int i :: rest)) :=
  va_mmax F.1.1 F.1.2.1 (F.1.2.2.1.trans hls.symm) F.1.2.2.2.1 (F.1.2.2.2.2 _ h1) (F.1.2.2.2.2 _ kt_J9_max_7cf53) (F.1.2.2.2.2 _ kn_J9) (F.1.2.2.2.2 _ kc_J9_max_7cf53) hR.1 (by rw [Nat.add_comm]; exact hR.2) hcs.1 hcs.2 hdg kk
theorem g_mmin (F : g_F p m c cc nL s args own D tys n a) (hls : ls.size = nL) (h1 : Cond.methodLink own index Lib.Math.min.name ∈ gW) (hR : 1 ≤ R.frames ∧ 13 + (rest.map fun v => v.category).sum ≤ R.locals) (hcs : cells ≤ R.cells ∧ slots ≤ R.slots) (hdg : decode cc pc = .ok (.invokestatic index, 3))
    (kk : W p l e R s m args below meth c H locs cells slots Q (F0 m (pc + 3) ls (.int (jmin i x) :: rest))) : W p l e R s m args below meth c H locs cells slots Q (F0 m pc ls (.int x :: .int i :: rest)) :=
  va_mmin F.1.1 F.1.2.1 (F.1.2.2.1.trans hls.symm) F.1.2.2.2.1 (F.1.2.2.2.2 _ h1) (F.1.2.2.2.2 _ kt_J9_min_7cf53) (F.1.2.2.2.2 _ kn_J9) (F.1.2.2.2.2 _ kc_J9_min_7cf53) hR.1 (by rw [Nat.add_comm]; exact hR.2) hcs.1 hcs.2 hdg kk
theorem g_mabs (F : g_F p m c cc nL s args own D tys n a) (hls : ls.size = nL) (h1 : Cond.methodLink own index Lib.Math.abs.name ∈ gW) (hR : 1 ≤ R.frames ∧ 13 + (rest.map fun v => v.category).sum ≤ R.locals) (hcs : cells ≤ R.cells ∧ slots ≤ R.slots) (hdg : decode cc pc = .ok (.invokestatic index, 3))
    (kk : W p l e R s m args below meth c H locs cells slots Q (F0 m (pc + 3) ls (.int (jabs i) :: rest))) : W p l e R s m args below meth c H locs cells slots Q (F0 m pc ls (.int i :: rest)) :=
  va_mabs F.1.1 F.1.2.1 (F.1.2.2.1.trans hls.symm) F.1.2.2.2.1 (F.1.2.2.2.2 _ h1) (F.1.2.2.2.2 _ kt_J9_abs_0f7a4) (F.1.2.2.2.2 _ kn_J9) (F.1.2.2.2.2 _ kc_J9_abs_0f7a4) hR.1 (by rw [Nat.add_comm]; exact hR.2) hcs.1 hcs.2 hdg kk
end GR2
