/-- Spurline$Controls.count()I -/
def f_X1_count (σ : gSt) : Int32 :=
  σ.2 4
abbrev rmX1_count : Room := { frames := 0, cells := 0, slots := 0, locals := 0 }
theorem kb_X1_count : g_CB yX1_count cX1_count 1 (some .int) 0 := ⟨kc_X1_count, kn_X1, by decide +kernel⟩
set_option maxRecDepth 100000 in
set_option maxHeartbeats 4000000 in
theorem c_X1_count (l : Launch) (D : va_G) (a : Nat → Nat) (cI : ClassId) (hj : g_Inj 65 a) (σ : gSt) : Met l yX1_count (Cond.code yX1_count cX1_count 1 (some .int) :: gW) rmX1_count (g_Pc 65 D a (gE a cI σ) [(cI, .int)] [.ref (a 4)]) (g_Qi 65 D a (gE a cI σ) (f_X1_count σ)) 0 0 (g_Own 65 a) := by
  generalize hh : f_X1_count σ = out
  refine g_meti (by decide) hj (Nat.le_of_ble_eq_true rfl) ?_
  intro p e s m args below meth c Q ls F hl hI hq
  have hx := F.1.1
  have hb := F.1.2.1
  have hl : lv_has ls 1 [(0, .ref (a 4))] := hl
  have h := hh
  unfold f_X1_count at h
  refine lv_aload_n hx hb dX1_count_0 rfl (lv_at hl 0 rfl) ?_
  refine g_get F hI (by decide) gE_4 rfl ku_X1 2 (by decide) kf_X1_23 rfl dX1_count_1 ?_
  subst h
  exact hq _ _ _ _ hI dX1_count_4
/-- Spurline$Controls.cellOf(I)I -/
def f_X1_cellOf (σ : gSt) (x1 : Int32) : Int32 :=
  gget σ 8 x1
abbrev rmX1_cellOf : Room := { frames := 1, cells := 0, slots := 0, locals := 21 }
theorem kb_X1_cellOf : g_CB yX1_cellOf cX1_cellOf 2 (some .int) 1 := ⟨kc_X1_cellOf, kn_X1, by decide +kernel⟩
set_option maxRecDepth 100000 in
set_option maxHeartbeats 4000000 in
theorem c_X1_cellOf (l : Launch) (D : va_G) (a : Nat → Nat) (cI : ClassId) (hj : g_Inj 65 a) (σ : gSt) (x1 : Int32) : Met l yX1_cellOf (Cond.code yX1_cellOf cX1_cellOf 2 (some .int) :: gW) rmX1_cellOf (g_Pc 65 D a (gE a cI σ) [(cI, .int)] [.ref (a 4), .int x1]) (g_Qi 65 D a (gE a cI σ) (f_X1_cellOf σ x1)) 0 0 (g_Own 65 a) := by
  generalize hh : f_X1_cellOf σ x1 = out
  refine g_meti (by decide) hj (Nat.le_of_ble_eq_true rfl) ?_
  intro p e s m args below meth c Q ls F hl hI hq
  have hx := F.1.1
  have hb := F.1.2.1
  have hl : lv_has ls 2 [(0, .ref (a 4)), (1, .int x1)] := hl
  have h := hh
  unfold f_X1_cellOf at h
  refine lv_aload_n hx hb dX1_cellOf_0 rfl (lv_at hl 0 rfl) ?_
  refine g_get F hI (by decide) gE_4 rfl ku_X1 0 (by decide) kf_X1_14 rfl dX1_cellOf_1 ?_
  refine lv_iload_n hx hb dX1_cellOf_4 rfl (lv_at hl 1 rfl) ?_
  refine g_rget F hI 8 (by decide) km_X1_27 ⟨Nat.le_of_ble_eq_true rfl, Nat.le_of_ble_eq_true rfl⟩ hl.1 (Nat.le_of_ble_eq_true rfl) ⟨Nat.zero_le _, Nat.zero_le _⟩ dX1_cellOf_5 (fun H locs hI => ?_)
  subst h
  exact hq _ _ _ _ hI dX1_cellOf_8
/-- Spurline$Controls.hasFailed(I)Z -/
def f_X1_hasFailed (σ : gSt) (x1 : Int32) : Int32 :=
  if gget σ 9 x1 = 1 then
    1
  else
    0
abbrev rmX1_hasFailed : Room := { frames := 1, cells := 0, slots := 0, locals := 21 }
theorem kb_X1_hasFailed : g_CB yX1_hasFailed cX1_hasFailed 2 (some .boolean) 1 := ⟨kc_X1_hasFailed, kn_X1, by decide +kernel⟩
set_option maxRecDepth 100000 in
set_option maxHeartbeats 4000000 in
theorem c_X1_hasFailed (l : Launch) (D : va_G) (a : Nat → Nat) (cI : ClassId) (hj : g_Inj 65 a) (σ : gSt) (x1 : Int32) : Met l yX1_hasFailed (Cond.code yX1_hasFailed cX1_hasFailed 2 (some .boolean) :: gW) rmX1_hasFailed (g_Pc 65 D a (gE a cI σ) [(cI, .int)] [.ref (a 4), .int x1]) (g_Qi 65 D a (gE a cI σ) (f_X1_hasFailed σ x1)) 0 0 (g_Own 65 a) := by
  generalize hh : f_X1_hasFailed σ x1 = out
  refine g_metz (by decide) hj (Nat.le_of_ble_eq_true rfl) ?_
  intro p e s m args below meth c Q ls F hl hI hq
  have hx := F.1.1
  have hb := F.1.2.1
  have hl : lv_has ls 2 [(0, .ref (a 4)), (1, .int x1)] := hl
  have h := hh
  unfold f_X1_hasFailed at h
  refine lv_aload_n hx hb dX1_hasFailed_0 rfl (lv_at hl 0 rfl) ?_
  refine g_get F hI (by decide) gE_4 rfl ku_X1 1 (by decide) kf_X1_20 rfl dX1_hasFailed_1 ?_
  refine lv_iload_n hx hb dX1_hasFailed_4 rfl (lv_at hl 1 rfl) ?_
  refine g_rget F hI 9 (by decide) km_X1_27 ⟨Nat.le_of_ble_eq_true rfl, Nat.le_of_ble_eq_true rfl⟩ hl.1 (Nat.le_of_ble_eq_true rfl) ⟨Nat.zero_le _, Nat.zero_le _⟩ dX1_hasFailed_5 (fun H locs hI => ?_)
  refine lv_iconst (v := 1) hx hb dX1_hasFailed_8 (by decide) ?_
  refine lv_icmp_ne (tgt := 16) hx hb dX1_hasFailed_9 (by decide) (fun c_9 => ?_) (fun c_9 => ?_)
  · have h := (if_neg c_9).symm.trans h
    refine lv_iconst (v := 0) hx hb dX1_hasFailed_16 (by decide) ?_
    subst h
    exact hq _ _ _ _ _ (show (0 : Int32) &&& 1 = 0 from by decide) hI dX1_hasFailed_17
  · have h := (if_pos c_9).symm.trans h
    refine lv_iconst (v := 1) hx hb dX1_hasFailed_12 (by decide) ?_
    refine lv_goto (tgt := 17) hx hb dX1_hasFailed_13 (by decide) ?_
    subst h
    exact hq _ _ _ _ _ (show (1 : Int32) &&& 1 = 1 from by decide) hI dX1_hasFailed_17
/-- Spurline$Controls.standsIn(I)Z -/
def f_X1_standsIn (N : Nat) (σ : gSt) (x1 : Int32) : Option Int32 :=
  gLoop1 (fun self2 (v2_2 : Int32) =>
    if σ.2 4 ≤ v2_2 then
      some 0
    else
      if gget σ 8 v2_2 = x1 then
        some 1
      else
        self2 (v2_2 + 1)) N 0
abbrev rmX1_standsIn : Room := { frames := 1, cells := 0, slots := 0, locals := 21 }
theorem kb_X1_standsIn : g_CB yX1_standsIn cX1_standsIn 3 (some .boolean) 1 := ⟨kc_X1_standsIn, kn_X1, by decide +kernel⟩
set_option maxRecDepth 100000 in
set_option maxHeartbeats 4000000 in
theorem c_X1_standsIn (l : Launch) (D : va_G) (a : Nat → Nat) (cI : ClassId) (hj : g_Inj 65 a) (N : Nat) (σ : gSt) (x1 : Int32) (out : Int32) (hh : f_X1_standsIn N σ x1 = some out) : Met l yX1_standsIn (Cond.code yX1_standsIn cX1_standsIn 3 (some .boolean) :: gW) rmX1_standsIn (g_Pc 65 D a (gE a cI σ) [(cI, .int)] [.ref (a 4), .int x1]) (g_Qi 65 D a (gE a cI σ) out) 0 0 (g_Own 65 a) := by
  refine g_metz (by decide) hj (Nat.le_of_ble_eq_true rfl) ?_
  intro p e s m args below meth c Q ls F hl hI hq
  have hx := F.1.1
  have hb := F.1.2.1
  have hl : lv_has ls 3 [(0, .ref (a 4)), (1, .int x1)] := hl
  have h := hh
  unfold f_X1_standsIn at h
  refine lv_iconst (v := 0) hx hb dX1_standsIn_0 (by decide) ?_
  refine lv_istore_n (lv' := [(2, .int 0), (0, .ref (a 4)), (1, .int x1)]) hx hb dX1_standsIn_1 rfl hl (by decide) rfl (fun ls hl => ?_)
  obtain ⟨lp2, hz2, hs2, h⟩ := gLoop1_in h
  have L2 : ∀ (n : Nat) (v2_2 : Int32) (H : Heap) (locs : List Loc) (ls : Array Slot), lp2 n v2_2 = some out → g_S 65 D a (gE a cI σ) s.heap H locs → lv_has ls 3 [(0, .ref (a 4)), (1, .int x1), (2, .int v2_2)] → W p l e rmX1_standsIn s m args below meth c H locs 0 0 Q (F0 m 2 ls []) := by
    intro n
    induction n with
    | zero => intro v2_2 H locs ls h; rw [hz2] at h; cases h
    | succ n ih2 =>
      intro v2_2 H locs ls h hI hl
      rw [hs2] at h
      refine lv_iload_n hx hb dX1_standsIn_2 rfl (lv_at hl 2 rfl) ?_
      refine lv_aload_n hx hb dX1_standsIn_3 rfl (lv_at hl 0 rfl) ?_
      refine g_get F hI (by decide) gE_4 rfl ku_X1 2 (by decide) kf_X1_23 rfl dX1_standsIn_4 ?_
      refine lv_icmp_ge (tgt := 30) hx hb dX1_standsIn_7 (by decide) (fun c_7 => ?_) (fun c_7 => ?_)
      · have h := (if_pos c_7).symm.trans h
        refine lv_iconst (v := 0) hx hb dX1_standsIn_30 (by decide) ?_
        have h := Option.some.inj h
        subst h
        exact hq _ _ _ _ _ (show (0 : Int32) &&& 1 = 0 from by decide) hI dX1_standsIn_31
      · have h := (if_neg c_7).symm.trans h
        refine lv_aload_n hx hb dX1_standsIn_10 rfl (lv_at hl 0 rfl) ?_
        refine g_get F hI (by decide) gE_4 rfl ku_X1 0 (by decide) kf_X1_14 rfl dX1_standsIn_11 ?_
        refine lv_iload_n hx hb dX1_standsIn_14 rfl (lv_at hl 2 rfl) ?_
        refine g_rget F hI 8 (by decide) km_X1_27 ⟨Nat.le_of_ble_eq_true rfl, Nat.le_of_ble_eq_true rfl⟩ hl.1 (Nat.le_of_ble_eq_true rfl) ⟨Nat.zero_le _, Nat.zero_le _⟩ dX1_standsIn_15 (fun H locs hI => ?_)
        refine lv_iload_n hx hb dX1_standsIn_18 rfl (lv_at hl 1 rfl) ?_
        refine lv_icmp_ne (tgt := 24) hx hb dX1_standsIn_19 (by decide) (fun c_19 => ?_) (fun c_19 => ?_)
        · have h := (if_neg c_19).symm.trans h
          refine lv_iinc (v := v2_2 + 1) (lv' := [(2, .int (v2_2 + 1)), (0, .ref (a 4)), (1, .int x1)]) hx hb dX1_standsIn_24 hl (k := 2) rfl rfl (by decide) rfl (fun ls hl => ?_)
          refine lv_goto (tgt := 2) hx hb dX1_standsIn_27 (by decide) ?_
          exact ih2 _ _ _ _ h hI (lv_sub hl [1, 2, 0] rfl)
        · have h := (if_pos c_19).symm.trans h
          refine lv_iconst (v := 1) hx hb dX1_standsIn_22 (by decide) ?_
          have h := Option.some.inj h
          subst h
          exact hq _ _ _ _ _ (show (1 : Int32) &&& 1 = 1 from by decide) hI dX1_standsIn_23
  exact L2 _ _ _ _ _ h hI (lv_sub hl [1, 2, 0] rfl)
/-- Spurline$Controls.add(I)I -/
def f_X1_add (σ : gSt) (x1 : Int32) : Int32 × gSt :=
  (((g_sf (gput σ 8 (σ.2 4) x1) 4 (((gput σ 8 (σ.2 4) x1).2 4) + 1)).2 4) - 1, g_sf (gput σ 8 (σ.2 4) x1) 4 (((gput σ 8 (σ.2 4) x1).2 4) + 1))
abbrev rmX1_add : Room := { frames := 1, cells := 0, slots := 0, locals := 22 }
theorem kb_X1_add : g_CB yX1_add cX1_add 2 (some .int) 1 := ⟨kc_X1_add, kn_X1, by decide +kernel⟩
set_option maxRecDepth 100000 in
set_option maxHeartbeats 4000000 in
theorem c_X1_add (l : Launch) (D : va_G) (a : Nat → Nat) (cI : ClassId) (hj : g_Inj 65 a) (σ : gSt) (x1 : Int32) : Met l yX1_add (Cond.code yX1_add cX1_add 2 (some .int) :: gW) rmX1_add (g_Pc 65 D a (gE a cI σ) [(cI, .int)] [.ref (a 4), .int x1]) (g_Qi 65 D a (gE a cI (f_X1_add σ x1).2) (f_X1_add σ x1).1) 0 0 (g_Own 65 a) := by
  generalize hh : f_X1_add σ x1 = out
  refine g_meti (by decide) hj (Nat.le_of_ble_eq_true rfl) ?_
  intro p e s m args below meth c Q ls F hl hI hq
  have hx := F.1.1
  have hb := F.1.2.1
  have hl : lv_has ls 2 [(0, .ref (a 4)), (1, .int x1)] := hl
  have h := hh
  unfold f_X1_add at h
  refine lv_aload_n hx hb dX1_add_0 rfl (lv_at hl 0 rfl) ?_
  refine g_get F hI (by decide) gE_4 rfl ku_X1 0 (by decide) kf_X1_14 rfl dX1_add_1 ?_
  refine lv_aload_n hx hb dX1_add_4 rfl (lv_at hl 0 rfl) ?_
  refine g_get F hI (by decide) gE_4 rfl ku_X1 2 (by decide) kf_X1_23 rfl dX1_add_5 ?_
  refine lv_iload_n hx hb dX1_add_8 rfl (lv_at hl 1 rfl) ?_
  refine g_rput F hI 8 (by decide) km_X1_31 ⟨Nat.le_of_ble_eq_true rfl, Nat.le_of_ble_eq_true rfl⟩ hl.1 (Nat.le_of_ble_eq_true rfl) ⟨Nat.zero_le _, Nat.zero_le _⟩ dX1_add_9 (fun H locs hI => ?_)
  refine lv_aload_n hx hb dX1_add_12 rfl (lv_at hl 0 rfl) ?_
  refine lv_dup hx hb dX1_add_13 rfl ?_
  refine g_get F hI (by decide) gE_4 rfl ku_X1 2 (by decide) kf_X1_23 rfl dX1_add_14 ?_
  refine lv_iconst (v := 1) hx hb dX1_add_17 (by decide) ?_
  refine lv_iadd hx hb dX1_add_18 ?_
  refine g_put (E' := gE a cI (g_sf (gput σ 8 (σ.2 4) x1) 4 (((gput σ 8 (σ.2 4) x1).2 4) + 1))) F hI (by decide) gE_4 rfl ku_X1 tyX1_ok nmX1 2 (by decide) kf_X1_23 rfl rfl rfl rfl (Nat.le_of_ble_eq_true rfl) rfl gE_sf_4 dX1_add_19 (fun H locs hI => ?_)
  refine lv_aload_n hx hb dX1_add_22 rfl (lv_at hl 0 rfl) ?_
  refine g_get F hI (by decide) gE_4 rfl ku_X1 2 (by decide) kf_X1_23 rfl dX1_add_23 ?_
  refine lv_iconst (v := 1) hx hb dX1_add_26 (by decide) ?_
  refine lv_isub hx hb dX1_add_27 ?_
  subst h
  exact hq _ _ _ _ hI dX1_add_28
/-- Spurline$Controls.replaceFailed(IZ)Z -/
def f_X1_replaceFailed (σ : gSt) (x1 x2 : Int32) : Int32 × gSt :=
  gJoin1 (fun (w0_20 : Int32) =>
      ((f_X1_hasFailed σ x1) &&& 1, gput σ 9 x1 w0_20)) (fun j20 =>
    if x2 = 0 then
      j20 0
    else
      j20 1)
abbrev rmX1_replaceFailed : Room := { frames := 2, cells := 0, slots := 0, locals := 42 }
theorem kb_X1_replaceFailed : g_CB yX1_replaceFailed cX1_replaceFailed 4 (some .boolean) 2 := ⟨kc_X1_replaceFailed, kn_X1, by decide +kernel⟩
set_option maxRecDepth 100000 in
set_option maxHeartbeats 4000000 in
theorem c_X1_replaceFailed (l : Launch) (D : va_G) (a : Nat → Nat) (cI : ClassId) (hj : g_Inj 65 a) (σ : gSt) (x1 x2 : Int32) : Met l yX1_replaceFailed (Cond.code yX1_replaceFailed cX1_replaceFailed 4 (some .boolean) :: gW) rmX1_replaceFailed (g_Pc 65 D a (gE a cI σ) [(cI, .int)] [.ref (a 4), .int x1, .int x2]) (g_Qi 65 D a (gE a cI (f_X1_replaceFailed σ x1 x2).2) (f_X1_replaceFailed σ x1 x2).1) 0 0 (g_Own 65 a) := by
  generalize hh : f_X1_replaceFailed σ x1 x2 = out
  refine g_metz (by decide) hj (Nat.le_of_ble_eq_true rfl) ?_
  intro p e s m args below meth c Q ls F hl hI hq
  have hx := F.1.1
  have hb := F.1.2.1
  have hl : lv_has ls 4 [(0, .ref (a 4)), (1, .int x1), (2, .int x2)] := hl
  have h := hh
  unfold f_X1_replaceFailed at h
  refine lv_aload_n hx hb dX1_replaceFailed_0 rfl (lv_at hl 0 rfl) ?_
  refine lv_iload_n hx hb dX1_replaceFailed_1 rfl (lv_at hl 1 rfl) ?_
  refine g_callVi (E' := gE a cI σ) (k0 := 4) (As := [.int x1]) (rest := []) F hI (c_X1_hasFailed l D a cI F.2.2 σ x1) kb_X1_hasFailed ki_X1_hasFailed ks_X1_hasFailed km_X1_35 ⟨Nat.le_of_ble_eq_true rfl, Nat.le_of_ble_eq_true rfl, rfl, rfl⟩ (by decide) gE_4 rfl hl.1 rfl (Nat.le_of_ble_eq_true rfl) ⟨Nat.zero_le _, Nat.zero_le _⟩ dX1_replaceFailed_2 (fun H locs hI => ?_)
  refine lv_istore_n (lv' := [(3, .int (f_X1_hasFailed σ x1)), (0, .ref (a 4)), (1, .int x1), (2, .int x2)]) hx hb dX1_replaceFailed_5 rfl hl (by decide) rfl (fun ls hl => ?_)
  refine lv_aload_n hx hb dX1_replaceFailed_6 rfl (lv_at hl 1 rfl) ?_
  refine g_get F hI (by decide) gE_4 rfl ku_X1 1 (by decide) kf_X1_20 rfl dX1_replaceFailed_7 ?_
  refine lv_iload_n hx hb dX1_replaceFailed_10 rfl (lv_at hl 2 rfl) ?_
  refine lv_iload_n hx hb dX1_replaceFailed_11 rfl (lv_at hl 3 rfl) ?_
  obtain ⟨j20, hj20, h⟩ := gJoin1_in h
  have J20 : ∀ (w0_20 : Int32) (H : Heap) (locs : List Loc) (ls : Array Slot), j20 w0_20 = out → g_S 65 D a (gE a cI σ) s.heap H locs → lv_has ls 4 [(3, .int (f_X1_hasFailed σ x1))] → W p l e rmX1_replaceFailed s m args below meth c H locs 0 0 Q (F0 m 20 ls [.int w0_20, .int x1, .ref (a 18)]) := by
    intro w0_20 H locs ls h hI hl
    rw [hj20] at h
    refine g_rput F hI 9 (by decide) km_X1_31 ⟨Nat.le_of_ble_eq_true rfl, Nat.le_of_ble_eq_true rfl⟩ hl.1 (Nat.le_of_ble_eq_true rfl) ⟨Nat.zero_le _, Nat.zero_le _⟩ dX1_replaceFailed_20 (fun H locs hI => ?_)
    refine lv_iload_n hx hb dX1_replaceFailed_23 rfl (lv_at hl 0 rfl) ?_
    subst h
    exact hq _ _ _ _ _ rfl hI dX1_replaceFailed_24
  refine lv_if_eq (tgt := 19) hx hb dX1_replaceFailed_12 (by decide) (fun c_12 => ?_) (fun c_12 => ?_)
  · have h := (if_pos c_12).symm.trans h
    refine lv_iconst (v := 0) hx hb dX1_replaceFailed_19 (by decide) ?_
    exact J20 _ _ _ _ h hI (lv_sub hl [0] rfl)
  · have h := (if_neg c_12).symm.trans h
    refine lv_iconst (v := 1) hx hb dX1_replaceFailed_15 (by decide) ?_
    refine lv_goto (tgt := 20) hx hb dX1_replaceFailed_16 (by decide) ?_
    exact J20 _ _ _ _ h hI (lv_sub hl [0] rfl)
/-- Spurline$Courses.length(I)I -/
def f_X2_length (σ : gSt) (x1 : Int32) : Int32 :=
  gget σ 11 x1
abbrev rmX2_length : Room := { frames := 1, cells := 0, slots := 0, locals := 21 }
theorem kb_X2_length : g_CB yX2_length cX2_length 2 (some .int) 1 := ⟨kc_X2_length, kn_X2, by decide +kernel⟩
set_option maxRecDepth 100000 in
set_option maxHeartbeats 4000000 in
theorem c_X2_length (l : Launch) (D : va_G) (a : Nat → Nat) (cI : ClassId) (hj : g_Inj 65 a) (σ : gSt) (x1 : Int32) : Met l yX2_length (Cond.code yX2_length cX2_length 2 (some .int) :: gW) rmX2_length (g_Pc 65 D a (gE a cI σ) [(cI, .int)] [.ref (a 5), .int x1]) (g_Qi 65 D a (gE a cI σ) (f_X2_length σ x1)) 0 0 (g_Own 65 a) := by
  generalize hh : f_X2_length σ x1 = out
  refine g_meti (by decide) hj (Nat.le_of_ble_eq_true rfl) ?_
  intro p e s m args below meth c Q ls F hl hI hq
  have hx := F.1.1
  have hb := F.1.2.1
  have hl : lv_has ls 2 [(0, .ref (a 5)), (1, .int x1)] := hl
  have h := hh
  unfold f_X2_length at h
  refine lv_aload_n hx hb dX2_length_0 rfl (lv_at hl 0 rfl) ?_
  refine g_get F hI (by decide) gE_5 rfl ku_X2 1 (by decide) kf_X2_20 rfl dX2_length_1 ?_
  refine lv_iload_n hx hb dX2_length_4 rfl (lv_at hl 1 rfl) ?_
  refine g_rget F hI 11 (by decide) km_X2_23 ⟨Nat.le_of_ble_eq_true rfl, Nat.le_of_ble_eq_true rfl⟩ hl.1 (Nat.le_of_ble_eq_true rfl) ⟨Nat.zero_le _, Nat.zero_le _⟩ dX2_length_5 (fun H locs hI => ?_)
  subst h
  exact hq _ _ _ _ hI dX2_length_8
/-- Spurline$Courses.legs(I)I -/
def f_X2_legs (σ : gSt) (x1 : Int32) : Int32 :=
  jmax 0 ((gget σ 11 x1) - 1)
abbrev rmX2_legs : Room := { frames := 1, cells := 0, slots := 0, locals := 21 }
theorem kb_X2_legs : g_CB yX2_legs cX2_legs 2 (some .int) 1 := ⟨kc_X2_legs, kn_X2, by decide +kernel⟩
set_option maxRecDepth 100000 in
set_option maxHeartbeats 4000000 in
theorem c_X2_legs (l : Launch) (D : va_G) (a : Nat → Nat) (cI : ClassId) (hj : g_Inj 65 a) (σ : gSt) (x1 : Int32) : Met l yX2_legs (Cond.code yX2_legs cX2_legs 2 (some .int) :: gW) rmX2_legs (g_Pc 65 D a (gE a cI σ) [(cI, .int)] [.ref (a 5), .int x1]) (g_Qi 65 D a (gE a cI σ) (f_X2_legs σ x1)) 0 0 (g_Own 65 a) := by
  generalize hh : f_X2_legs σ x1 = out
  refine g_meti (by decide) hj (Nat.le_of_ble_eq_true rfl) ?_
  intro p e s m args below meth c Q ls F hl hI hq
  have hx := F.1.1
  have hb := F.1.2.1
  have hl : lv_has ls 2 [(0, .ref (a 5)), (1, .int x1)] := hl
  have h := hh
  unfold f_X2_legs at h
  refine lv_iconst (v := 0) hx hb dX2_legs_0 (by decide) ?_
  refine lv_aload_n hx hb dX2_legs_1 rfl (lv_at hl 0 rfl) ?_
  refine g_get F hI (by decide) gE_5 rfl ku_X2 1 (by decide) kf_X2_20 rfl dX2_legs_2 ?_
  refine lv_iload_n hx hb dX2_legs_5 rfl (lv_at hl 1 rfl) ?_
  refine g_rget F hI 11 (by decide) km_X2_23 ⟨Nat.le_of_ble_eq_true rfl, Nat.le_of_ble_eq_true rfl⟩ hl.1 (Nat.le_of_ble_eq_true rfl) ⟨Nat.zero_le _, Nat.zero_le _⟩ dX2_legs_6 (fun H locs hI => ?_)
  refine lv_iconst (v := 1) hx hb dX2_legs_9 (by decide) ?_
  refine lv_isub hx hb dX2_legs_10 ?_
  refine g_mmax F hl.1 km_X2_27 ⟨Nat.le_of_ble_eq_true rfl, Nat.le_of_ble_eq_true rfl⟩ ⟨Nat.zero_le _, Nat.zero_le _⟩ dX2_legs_11 ?_
  subst h
  exact hq _ _ _ _ hI dX2_legs_14
/-- Spurline$Courses.controlAt(II)I -/
def f_X2_controlAt (σ : gSt) (x1 x2 : Int32) : Int32 :=
  if x2 < 0 then
    (-1)
  else
    if gget σ 11 x1 ≤ x2 then
      (-1)
    else
      gget σ 10 ((x1 * 6) + x2)
abbrev rmX2_controlAt : Room := { frames := 1, cells := 0, slots := 0, locals := 21 }
theorem kb_X2_controlAt : g_CB yX2_controlAt cX2_controlAt 3 (some .int) 2 := ⟨kc_X2_controlAt, kn_X2, by decide +kernel⟩
set_option maxRecDepth 100000 in
set_option maxHeartbeats 4000000 in
theorem c_X2_controlAt (l : Launch) (D : va_G) (a : Nat → Nat) (cI : ClassId) (hj : g_Inj 65 a) (σ : gSt) (x1 x2 : Int32) : Met l yX2_controlAt (Cond.code yX2_controlAt cX2_controlAt 3 (some .int) :: gW) rmX2_controlAt (g_Pc 65 D a (gE a cI σ) [(cI, .int)] [.ref (a 5), .int x1, .int x2]) (g_Qi 65 D a (gE a cI σ) (f_X2_controlAt σ x1 x2)) 0 0 (g_Own 65 a) := by
  generalize hh : f_X2_controlAt σ x1 x2 = out
  refine g_meti (by decide) hj (Nat.le_of_ble_eq_true rfl) ?_
  intro p e s m args below meth c Q ls F hl hI hq
  have hx := F.1.1
  have hb := F.1.2.1
  have hl : lv_has ls 3 [(0, .ref (a 5)), (1, .int x1), (2, .int x2)] := hl
  have h := hh
  unfold f_X2_controlAt at h
  refine lv_iload_n hx hb dX2_controlAt_0 rfl (lv_at hl 2 rfl) ?_
  refine lv_if_lt (tgt := 32) hx hb dX2_controlAt_1 (by decide) (fun c_1 => ?_) (fun c_1 => ?_)
  · have h := (if_pos c_1).symm.trans h
    refine lv_iconst (v := -1) hx hb dX2_controlAt_32 (by decide) ?_
    subst h
    exact hq _ _ _ _ hI dX2_controlAt_33
  · have h := (if_neg c_1).symm.trans h
    refine lv_iload_n hx hb dX2_controlAt_4 rfl (lv_at hl 2 rfl) ?_
    refine lv_aload_n hx hb dX2_controlAt_5 rfl (lv_at hl 0 rfl) ?_
    refine g_get F hI (by decide) gE_5 rfl ku_X2 1 (by decide) kf_X2_20 rfl dX2_controlAt_6 ?_
    refine lv_iload_n hx hb dX2_controlAt_9 rfl (lv_at hl 1 rfl) ?_
    refine g_rget F hI 11 (by decide) km_X2_23 ⟨Nat.le_of_ble_eq_true rfl, Nat.le_of_ble_eq_true rfl⟩ hl.1 (Nat.le_of_ble_eq_true rfl) ⟨Nat.zero_le _, Nat.zero_le _⟩ dX2_controlAt_10 (fun H locs hI => ?_)
    refine lv_icmp_ge (tgt := 32) hx hb dX2_controlAt_13 (by decide) (fun c_13 => ?_) (fun c_13 => ?_)
    · have h := (if_pos c_13).symm.trans h
      refine lv_iconst (v := -1) hx hb dX2_controlAt_32 (by decide) ?_
      subst h
      exact hq _ _ _ _ hI dX2_controlAt_33
    · have h := (if_neg c_13).symm.trans h
      refine lv_aload_n hx hb dX2_controlAt_16 rfl (lv_at hl 0 rfl) ?_
      refine g_get F hI (by decide) gE_5 rfl ku_X2 0 (by decide) kf_X2_14 rfl dX2_controlAt_17 ?_
      refine lv_iload_n hx hb dX2_controlAt_20 rfl (lv_at hl 1 rfl) ?_
      refine lv_bipush (v := 6) hx hb dX2_controlAt_21 (by decide) ?_
      refine lv_imul hx hb dX2_controlAt_23 ?_
      refine lv_iload_n hx hb dX2_controlAt_24 rfl (lv_at hl 2 rfl) ?_
      refine lv_iadd hx hb dX2_controlAt_25 ?_
      refine g_rget F hI 10 (by decide) km_X2_23 ⟨Nat.le_of_ble_eq_true rfl, Nat.le_of_ble_eq_true rfl⟩ hl.1 (Nat.le_of_ble_eq_true rfl) ⟨Nat.zero_le _, Nat.zero_le _⟩ dX2_controlAt_26 (fun H locs hI => ?_)
      refine lv_goto (tgt := 33) hx hb dX2_controlAt_29 (by decide) ?_
      subst h
      exact hq _ _ _ _ hI dX2_controlAt_33
/-- Spurline$Courses.finish(I)I -/
def f_X2_finish (σ : gSt) (x1 : Int32) : Int32 :=
  f_X2_controlAt σ x1 ((gget σ 11 x1) - 1)
abbrev rmX2_finish : Room := { frames := 2, cells := 0, slots := 0, locals := 43 }
theorem kb_X2_finish : g_CB yX2_finish cX2_finish 2 (some .int) 1 := ⟨kc_X2_finish, kn_X2, by decide +kernel⟩
set_option maxRecDepth 100000 in
set_option maxHeartbeats 4000000 in
theorem c_X2_finish (l : Launch) (D : va_G) (a : Nat → Nat) (cI : ClassId) (hj : g_Inj 65 a) (σ : gSt) (x1 : Int32) : Met l yX2_finish (Cond.code yX2_finish cX2_finish 2 (some .int) :: gW) rmX2_finish (g_Pc 65 D a (gE a cI σ) [(cI, .int)] [.ref (a 5), .int x1]) (g_Qi 65 D a (gE a cI σ) (f_X2_finish σ x1)) 0 0 (g_Own 65 a) := by
  generalize hh : f_X2_finish σ x1 = out
  refine g_meti (by decide) hj (Nat.le_of_ble_eq_true rfl) ?_
  intro p e s m args below meth c Q ls F hl hI hq
  have hx := F.1.1
  have hb := F.1.2.1
  have hl : lv_has ls 2 [(0, .ref (a 5)), (1, .int x1)] := hl
  have h := hh
  unfold f_X2_finish at h
  refine lv_aload_n hx hb dX2_finish_0 rfl (lv_at hl 0 rfl) ?_
  refine lv_iload_n hx hb dX2_finish_1 rfl (lv_at hl 1 rfl) ?_
  refine lv_aload_n hx hb dX2_finish_2 rfl (lv_at hl 0 rfl) ?_
  refine g_get F hI (by decide) gE_5 rfl ku_X2 1 (by decide) kf_X2_20 rfl dX2_finish_3 ?_
  refine lv_iload_n hx hb dX2_finish_6 rfl (lv_at hl 1 rfl) ?_
  refine g_rget F hI 11 (by decide) km_X2_23 ⟨Nat.le_of_ble_eq_true rfl, Nat.le_of_ble_eq_true rfl⟩ hl.1 (Nat.le_of_ble_eq_true rfl) ⟨Nat.zero_le _, Nat.zero_le _⟩ dX2_finish_7 (fun H locs hI => ?_)
  refine lv_iconst (v := 1) hx hb dX2_finish_10 (by decide) ?_
  refine lv_isub hx hb dX2_finish_11 ?_
  refine g_callVi (E' := gE a cI σ) (k0 := 5) (As := [.int x1, .int ((gget σ 11 x1) - 1)]) (rest := []) F hI (c_X2_controlAt l D a cI F.2.2 σ x1 ((gget σ 11 x1) - 1)) kb_X2_controlAt ki_X2_controlAt ks_X2_controlAt km_X2_33 ⟨Nat.le_of_ble_eq_true rfl, Nat.le_of_ble_eq_true rfl, rfl, rfl⟩ (by decide) gE_5 rfl hl.1 rfl (Nat.le_of_ble_eq_true rfl) ⟨Nat.zero_le _, Nat.zero_le _⟩ dX2_finish_12 (fun H locs hI => ?_)
  subst h
  exact hq _ _ _ _ hI dX2_finish_15
/-- Spurline$Courses.contains(II)Z -/
def f_X2_contains (N : Nat) (σ : gSt) (x1 x2 : Int32) : Option Int32 :=
  gLoop1 (fun self2 (v3_2 : Int32) =>
    if gget σ 11 x1 ≤ v3_2 then
      some 0
    else
      if f_X2_controlAt σ x1 v3_2 = x2 then
        some 1
      else
        self2 (v3_2 + 1)) N 0
abbrev rmX2_contains : Room := { frames := 2, cells := 0, slots := 0, locals := 43 }
theorem kb_X2_contains : g_CB yX2_contains cX2_contains 4 (some .boolean) 2 := ⟨kc_X2_contains, kn_X2, by decide +kernel⟩
set_option maxRecDepth 100000 in
set_option maxHeartbeats 4000000 in
theorem c_X2_contains (l : Launch) (D : va_G) (a : Nat → Nat) (cI : ClassId) (hj : g_Inj 65 a) (N : Nat) (σ : gSt) (x1 x2 : Int32) (out : Int32) (hh : f_X2_contains N σ x1 x2 = some out) : Met l yX2_contains (Cond.code yX2_contains cX2_contains 4 (some .boolean) :: gW) rmX2_contains (g_Pc 65 D a (gE a cI σ) [(cI, .int)] [.ref (a 5), .int x1, .int x2]) (g_Qi 65 D a (gE a cI σ) out) 0 0 (g_Own 65 a) := by
  refine g_metz (by decide) hj (Nat.le_of_ble_eq_true rfl) ?_
  intro p e s m args below meth c Q ls F hl hI hq
  have hx := F.1.1
  have hb := F.1.2.1
  have hl : lv_has ls 4 [(0, .ref (a 5)), (1, .int x1), (2, .int x2)] := hl
  have h := hh
  unfold f_X2_contains at h
  refine lv_iconst (v := 0) hx hb dX2_contains_0 (by decide) ?_
  refine lv_istore_n (lv' := [(3, .int 0), (0, .ref (a 5)), (1, .int x1), (2, .int x2)]) hx hb dX2_contains_1 rfl hl (by decide) rfl (fun ls hl => ?_)
  obtain ⟨lp2, hz2, hs2, h⟩ := gLoop1_in h
  have L2 : ∀ (n : Nat) (v3_2 : Int32) (H : Heap) (locs : List Loc) (ls : Array Slot), lp2 n v3_2 = some out → g_S 65 D a (gE a cI σ) s.heap H locs → lv_has ls 4 [(0, .ref (a 5)), (1, .int x1), (2, .int x2), (3, .int v3_2)] → W p l e rmX2_contains s m args below meth c H locs 0 0 Q (F0 m 2 ls []) := by
    intro n
    induction n with
    | zero => intro v3_2 H locs ls h; rw [hz2] at h; cases h
    | succ n ih2 =>
      intro v3_2 H locs ls h hI hl
      rw [hs2] at h
      refine lv_iload_n hx hb dX2_contains_2 rfl (lv_at hl 3 rfl) ?_
      refine lv_aload_n hx hb dX2_contains_3 rfl (lv_at hl 0 rfl) ?_
      refine g_get F hI (by decide) gE_5 rfl ku_X2 1 (by decide) kf_X2_20 rfl dX2_contains_4 ?_
      refine lv_iload_n hx hb dX2_contains_7 rfl (lv_at hl 1 rfl) ?_
      refine g_rget F hI 11 (by decide) km_X2_23 ⟨Nat.le_of_ble_eq_true rfl, Nat.le_of_ble_eq_true rfl⟩ hl.1 (Nat.le_of_ble_eq_true rfl) ⟨Nat.zero_le _, Nat.zero_le _⟩ dX2_contains_8 (fun H locs hI => ?_)
      refine lv_icmp_ge (tgt := 32) hx hb dX2_contains_11 (by decide) (fun c_11 => ?_) (fun c_11 => ?_)
      · have h := (if_pos c_11).symm.trans h
        refine lv_iconst (v := 0) hx hb dX2_contains_32 (by decide) ?_
        have h := Option.some.inj h
        subst h
        exact hq _ _ _ _ _ (show (0 : Int32) &&& 1 = 0 from by decide) hI dX2_contains_33
      · have h := (if_neg c_11).symm.trans h
        refine lv_aload_n hx hb dX2_contains_14 rfl (lv_at hl 0 rfl) ?_
        refine lv_iload_n hx hb dX2_contains_15 rfl (lv_at hl 1 rfl) ?_
        refine lv_iload_n hx hb dX2_contains_16 rfl (lv_at hl 3 rfl) ?_
        refine g_callVi (E' := gE a cI σ) (k0 := 5) (As := [.int x1, .int v3_2]) (rest := []) F hI (c_X2_controlAt l D a cI F.2.2 σ x1 v3_2) kb_X2_controlAt ki_X2_controlAt ks_X2_controlAt km_X2_33 ⟨Nat.le_of_ble_eq_true rfl, Nat.le_of_ble_eq_true rfl, rfl, rfl⟩ (by decide) gE_5 rfl hl.1 rfl (Nat.le_of_ble_eq_true rfl) ⟨Nat.zero_le _, Nat.zero_le _⟩ dX2_contains_17 (fun H locs hI => ?_)
        refine lv_iload_n hx hb dX2_contains_20 rfl (lv_at hl 2 rfl) ?_
        refine lv_icmp_ne (tgt := 26) hx hb dX2_contains_21 (by decide) (fun c_21 => ?_) (fun c_21 => ?_)
        · have h := (if_neg c_21).symm.trans h
          refine lv_iinc (v := v3_2 + 1) (lv' := [(3, .int (v3_2 + 1)), (0, .ref (a 5)), (1, .int x1), (2, .int x2)]) hx hb dX2_contains_26 hl (k := 3) rfl rfl (by decide) rfl (fun ls hl => ?_)
          refine lv_goto (tgt := 2) hx hb dX2_contains_29 (by decide) ?_
          exact ih2 _ _ _ _ h hI (lv_sub hl [1, 2, 3, 0] rfl)
        · have h := (if_pos c_21).symm.trans h
          refine lv_iconst (v := 1) hx hb dX2_contains_24 (by decide) ?_
          have h := Option.some.inj h
          subst h
          exact hq _ _ _ _ _ (show (1 : Int32) &&& 1 = 1 from by decide) hI dX2_contains_25
  exact L2 _ _ _ _ _ h hI (lv_sub hl [1, 2, 3, 0] rfl)
/-- Spurline$Courses.beginsOrEndsOne(I)Z -/
def f_X2_beginsOrEndsOne (N : Nat) (σ : gSt) (x1 : Int32) : Option Int32 :=
  gLoop1 (fun self2 (v2_2 : Int32) =>
    if 5 ≤ v2_2 then
      some 0
    else
      if f_X2_controlAt σ v2_2 0 = x1 then
        some 1
      else
        if f_X2_finish σ v2_2 = x1 then
          some 1
        else
          self2 (v2_2 + 1)) N 0
abbrev rmX2_beginsOrEndsOne : Room := { frames := 3, cells := 0, slots := 0, locals := 64 }
theorem kb_X2_beginsOrEndsOne : g_CB yX2_beginsOrEndsOne cX2_beginsOrEndsOne 3 (some .boolean) 1 := ⟨kc_X2_beginsOrEndsOne, kn_X2, by decide +kernel⟩
set_option maxRecDepth 100000 in
set_option maxHeartbeats 4000000 in
theorem c_X2_beginsOrEndsOne (l : Launch) (D : va_G) (a : Nat → Nat) (cI : ClassId) (hj : g_Inj 65 a) (N : Nat) (σ : gSt) (x1 : Int32) (out : Int32) (hh : f_X2_beginsOrEndsOne N σ x1 = some out) : Met l yX2_beginsOrEndsOne (Cond.code yX2_beginsOrEndsOne cX2_beginsOrEndsOne 3 (some .boolean) :: gW) rmX2_beginsOrEndsOne (g_Pc 65 D a (gE a cI σ) [(cI, .int)] [.ref (a 5), .int x1]) (g_Qi 65 D a (gE a cI σ) out) 0 0 (g_Own 65 a) := by
  refine g_metz (by decide) hj (Nat.le_of_ble_eq_true rfl) ?_
  intro p e s m args below meth c Q ls F hl hI hq
  have hx := F.1.1
  have hb := F.1.2.1
  have hl : lv_has ls 3 [(0, .ref (a 5)), (1, .int x1)] := hl
  have h := hh
  unfold f_X2_beginsOrEndsOne at h
  refine lv_iconst (v := 0) hx hb dX2_beginsOrEndsOne_0 (by decide) ?_
  refine lv_istore_n (lv' := [(2, .int 0), (0, .ref (a 5)), (1, .int x1)]) hx hb dX2_beginsOrEndsOne_1 rfl hl (by decide) rfl (fun ls hl => ?_)
  obtain ⟨lp2, hz2, hs2, h⟩ := gLoop1_in h
  have L2 : ∀ (n : Nat) (v2_2 : Int32) (H : Heap) (locs : List Loc) (ls : Array Slot), lp2 n v2_2 = some out → g_S 65 D a (gE a cI σ) s.heap H locs → lv_has ls 3 [(0, .ref (a 5)), (1, .int x1), (2, .int v2_2)] → W p l e rmX2_beginsOrEndsOne s m args below meth c H locs 0 0 Q (F0 m 2 ls []) := by
    intro n
    induction n with
    | zero => intro v2_2 H locs ls h; rw [hz2] at h; cases h
    | succ n ih2 =>
      intro v2_2 H locs ls h hI hl
      rw [hs2] at h
      refine lv_iload_n hx hb dX2_beginsOrEndsOne_2 rfl (lv_at hl 2 rfl) ?_
      refine lv_iconst (v := 5) hx hb dX2_beginsOrEndsOne_3 (by decide) ?_
      refine lv_icmp_ge (tgt := 34) hx hb dX2_beginsOrEndsOne_4 (by decide) (fun c_4 => ?_) (fun c_4 => ?_)
      · have h := (if_pos c_4).symm.trans h
        refine lv_iconst (v := 0) hx hb dX2_beginsOrEndsOne_34 (by decide) ?_
        have h := Option.some.inj h
        subst h
        exact hq _ _ _ _ _ (show (0 : Int32) &&& 1 = 0 from by decide) hI dX2_beginsOrEndsOne_35
      · have h := (if_neg c_4).symm.trans h
        refine lv_aload_n hx hb dX2_beginsOrEndsOne_7 rfl (lv_at hl 0 rfl) ?_
        refine lv_iload_n hx hb dX2_beginsOrEndsOne_8 rfl (lv_at hl 2 rfl) ?_
        refine lv_iconst (v := 0) hx hb dX2_beginsOrEndsOne_9 (by decide) ?_
        refine g_callVi (E' := gE a cI σ) (k0 := 5) (As := [.int v2_2, .int 0]) (rest := []) F hI (c_X2_controlAt l D a cI F.2.2 σ v2_2 0) kb_X2_controlAt ki_X2_controlAt ks_X2_controlAt km_X2_33 ⟨Nat.le_of_ble_eq_true rfl, Nat.le_of_ble_eq_true rfl, rfl, rfl⟩ (by decide) gE_5 rfl hl.1 rfl (Nat.le_of_ble_eq_true rfl) ⟨Nat.zero_le _, Nat.zero_le _⟩ dX2_beginsOrEndsOne_10 (fun H locs hI => ?_)
        refine lv_iload_n hx hb dX2_beginsOrEndsOne_13 rfl (lv_at hl 1 rfl) ?_
        refine lv_icmp_eq (tgt := 26) hx hb dX2_beginsOrEndsOne_14 (by decide) (fun c_14 => ?_) (fun c_14 => ?_)
        · have h := (if_pos c_14).symm.trans h
          refine lv_iconst (v := 1) hx hb dX2_beginsOrEndsOne_26 (by decide) ?_
          have h := Option.some.inj h
          subst h
          exact hq _ _ _ _ _ (show (1 : Int32) &&& 1 = 1 from by decide) hI dX2_beginsOrEndsOne_27
        · have h := (if_neg c_14).symm.trans h
          refine lv_aload_n hx hb dX2_beginsOrEndsOne_17 rfl (lv_at hl 0 rfl) ?_
          refine lv_iload_n hx hb dX2_beginsOrEndsOne_18 rfl (lv_at hl 2 rfl) ?_
          refine g_callVi (E' := gE a cI σ) (k0 := 5) (As := [.int v2_2]) (rest := []) F hI (c_X2_finish l D a cI F.2.2 σ v2_2) kb_X2_finish ki_X2_finish ks_X2_finish km_X2_36 ⟨Nat.le_of_ble_eq_true rfl, Nat.le_of_ble_eq_true rfl, rfl, rfl⟩ (by decide) gE_5 rfl hl.1 rfl (Nat.le_of_ble_eq_true rfl) ⟨Nat.zero_le _, Nat.zero_le _⟩ dX2_beginsOrEndsOne_19 (fun H locs hI => ?_)
          refine lv_iload_n hx hb dX2_beginsOrEndsOne_22 rfl (lv_at hl 1 rfl) ?_
          refine lv_icmp_ne (tgt := 28) hx hb dX2_beginsOrEndsOne_23 (by decide) (fun c_23 => ?_) (fun c_23 => ?_)
          · have h := (if_neg c_23).symm.trans h
            refine lv_iinc (v := v2_2 + 1) (lv' := [(2, .int (v2_2 + 1)), (0, .ref (a 5)), (1, .int x1)]) hx hb dX2_beginsOrEndsOne_28 hl (k := 2) rfl rfl (by decide) rfl (fun ls hl => ?_)
            refine lv_goto (tgt := 2) hx hb dX2_beginsOrEndsOne_31 (by decide) ?_
            exact ih2 _ _ _ _ h hI (lv_sub hl [1, 2, 0] rfl)
          · have h := (if_pos c_23).symm.trans h
            refine lv_iconst (v := 1) hx hb dX2_beginsOrEndsOne_26 (by decide) ?_
            have h := Option.some.inj h
            subst h
            exact hq _ _ _ _ _ (show (1 : Int32) &&& 1 = 1 from by decide) hI dX2_beginsOrEndsOne_27
  exact L2 _ _ _ _ _ h hI (lv_sub hl [1, 2, 0] rfl)
/-- Spurline$Courses.replaceControl(III)V -/
def f_X2_replaceControl (σ : gSt) (x1 x2 x3 : Int32) : gSt :=
  gput σ 10 ((x1 * 6) + x2) x3
abbrev rmX2_replaceControl : Room := { frames := 1, cells := 0, slots := 0, locals := 22 }
theorem kb_X2_replaceControl : g_CB yX2_replaceControl cX2_replaceControl 4 none 3 := ⟨kc_X2_replaceControl, kn_X2, by decide +kernel⟩
set_option maxRecDepth 100000 in
set_option maxHeartbeats 4000000 in
theorem c_X2_replaceControl (l : Launch) (D : va_G) (a : Nat → Nat) (cI : ClassId) (hj : g_Inj 65 a) (σ : gSt) (x1 x2 x3 : Int32) : Met l yX2_replaceControl (Cond.code yX2_replaceControl cX2_replaceControl 4 none :: gW) rmX2_replaceControl (g_Pc 65 D a (gE a cI σ) [(cI, .int)] [.ref (a 5), .int x1, .int x2, .int x3]) (g_Qv 65 D a (gE a cI (f_X2_replaceControl σ x1 x2 x3))) 0 0 (g_Own 65 a) := by
  generalize hh : f_X2_replaceControl σ x1 x2 x3 = out
  refine g_metv (by decide) hj (Nat.le_of_ble_eq_true rfl) ?_
  intro p e s m args below meth c Q ls F hl hI hq
  have hx := F.1.1
  have hb := F.1.2.1
  have hl : lv_has ls 4 [(0, .ref (a 5)), (1, .int x1), (2, .int x2), (3, .int x3)] := hl
  have h := hh
  unfold f_X2_replaceControl at h
  refine lv_aload_n hx hb dX2_replaceControl_0 rfl (lv_at hl 0 rfl) ?_
  refine g_get F hI (by decide) gE_5 rfl ku_X2 0 (by decide) kf_X2_14 rfl dX2_replaceControl_1 ?_
  refine lv_iload_n hx hb dX2_replaceControl_4 rfl (lv_at hl 1 rfl) ?_
  refine lv_bipush (v := 6) hx hb dX2_replaceControl_5 (by decide) ?_
  refine lv_imul hx hb dX2_replaceControl_7 ?_
  refine lv_iload_n hx hb dX2_replaceControl_8 rfl (lv_at hl 2 rfl) ?_
  refine lv_iadd hx hb dX2_replaceControl_9 ?_
  refine lv_iload_n hx hb dX2_replaceControl_10 rfl (lv_at hl 3 rfl) ?_
  refine g_rput F hI 10 (by decide) km_X2_47 ⟨Nat.le_of_ble_eq_true rfl, Nat.le_of_ble_eq_true rfl⟩ hl.1 (Nat.le_of_ble_eq_true rfl) ⟨Nat.zero_le _, Nat.zero_le _⟩ dX2_replaceControl_11 (fun H locs hI => ?_)
  subst h
  exact hq _ _ _ _ hI dX2_replaceControl_14
/-- Spurline$Courses.append(II)I -/
def f_X2_append (σ : gSt) (x1 x2 : Int32) : Int32 × gSt :=
  (gget (ginc (f_X2_replaceControl σ x1 (gget σ 11 x1) x2) 11 x1 1) 11 x1, ginc (f_X2_replaceControl σ x1 (gget σ 11 x1) x2) 11 x1 1)
abbrev rmX2_append : Room := { frames := 2, cells := 0, slots := 0, locals := 45 }
theorem kb_X2_append : g_CB yX2_append cX2_append 3 (some .int) 2 := ⟨kc_X2_append, kn_X2, by decide +kernel⟩
set_option maxRecDepth 100000 in
set_option maxHeartbeats 4000000 in
theorem c_X2_append (l : Launch) (D : va_G) (a : Nat → Nat) (cI : ClassId) (hj : g_Inj 65 a) (σ : gSt) (x1 x2 : Int32) : Met l yX2_append (Cond.code yX2_append cX2_append 3 (some .int) :: gW) rmX2_append (g_Pc 65 D a (gE a cI σ) [(cI, .int)] [.ref (a 5), .int x1, .int x2]) (g_Qi 65 D a (gE a cI (f_X2_append σ x1 x2).2) (f_X2_append σ x1 x2).1) 0 0 (g_Own 65 a) := by
  generalize hh : f_X2_append σ x1 x2 = out
  refine g_meti (by decide) hj (Nat.le_of_ble_eq_true rfl) ?_
  intro p e s m args below meth c Q ls F hl hI hq
  have hx := F.1.1
  have hb := F.1.2.1
  have hl : lv_has ls 3 [(0, .ref (a 5)), (1, .int x1), (2, .int x2)] := hl
  have h := hh
  unfold f_X2_append at h
  refine lv_aload_n hx hb dX2_append_0 rfl (lv_at hl 0 rfl) ?_
  refine lv_iload_n hx hb dX2_append_1 rfl (lv_at hl 1 rfl) ?_
  refine lv_aload_n hx hb dX2_append_2 rfl (lv_at hl 0 rfl) ?_
  refine g_get F hI (by decide) gE_5 rfl ku_X2 1 (by decide) kf_X2_20 rfl dX2_append_3 ?_
  refine lv_iload_n hx hb dX2_append_6 rfl (lv_at hl 1 rfl) ?_
  refine g_rget F hI 11 (by decide) km_X2_23 ⟨Nat.le_of_ble_eq_true rfl, Nat.le_of_ble_eq_true rfl⟩ hl.1 (Nat.le_of_ble_eq_true rfl) ⟨Nat.zero_le _, Nat.zero_le _⟩ dX2_append_7 (fun H locs hI => ?_)
  refine lv_iload_n hx hb dX2_append_10 rfl (lv_at hl 2 rfl) ?_
  refine g_callVv (E' := gE a cI (f_X2_replaceControl σ x1 (gget σ 11 x1) x2)) (k0 := 5) (As := [.int x1, .int (gget σ 11 x1), .int x2]) (rest := []) F hI (c_X2_replaceControl l D a cI F.2.2 σ x1 (gget σ 11 x1) x2) kb_X2_replaceControl ki_X2_replaceControl ks_X2_replaceControl km_X2_39 ⟨Nat.le_of_ble_eq_true rfl, Nat.le_of_ble_eq_true rfl, rfl, rfl⟩ (by decide) gE_5 rfl hl.1 rfl (Nat.le_of_ble_eq_true rfl) ⟨Nat.zero_le _, Nat.zero_le _⟩ dX2_append_11 (fun H locs hI => ?_)
  refine lv_aload_n hx hb dX2_append_14 rfl (lv_at hl 0 rfl) ?_
  refine g_get F hI (by decide) gE_5 rfl ku_X2 1 (by decide) kf_X2_20 rfl dX2_append_15 ?_
  refine lv_iload_n hx hb dX2_append_18 rfl (lv_at hl 1 rfl) ?_
  refine lv_iconst (v := 1) hx hb dX2_append_19 (by decide) ?_
  refine g_rinc F hI 11 (by decide) km_X2_43 ⟨Nat.le_of_ble_eq_true rfl, Nat.le_of_ble_eq_true rfl⟩ hl.1 (Nat.le_of_ble_eq_true rfl) ⟨Nat.zero_le _, Nat.zero_le _⟩ dX2_append_20 (fun H locs hI => ?_)
  refine lv_aload_n hx hb dX2_append_23 rfl (lv_at hl 0 rfl) ?_
  refine g_get F hI (by decide) gE_5 rfl ku_X2 1 (by decide) kf_X2_20 rfl dX2_append_24 ?_
  refine lv_iload_n hx hb dX2_append_27 rfl (lv_at hl 1 rfl) ?_
  refine g_rget F hI 11 (by decide) km_X2_23 ⟨Nat.le_of_ble_eq_true rfl, Nat.le_of_ble_eq_true rfl⟩ hl.1 (Nat.le_of_ble_eq_true rfl) ⟨Nat.zero_le _, Nat.zero_le _⟩ dX2_append_28 (fun H locs hI => ?_)
  subst h
  exact hq _ _ _ _ hI dX2_append_31
/-- Spurline$Terrain.number(II)I -/
def f_X8_number (x0 x1 : Int32) : Int32 :=
  (x1 * 12) + x0
abbrev rmX8_number : Room := { frames := 0, cells := 0, slots := 0, locals := 0 }
theorem kb_X8_number : g_CB yX8_number cX8_number 2 (some .int) 2 := ⟨kc_X8_number, kn_X8, by decide +kernel⟩
set_option maxRecDepth 100000 in
set_option maxHeartbeats 4000000 in
theorem c_X8_number (l : Launch) (D : va_G) (a : Nat → Nat) (cI : ClassId) (hj : g_Inj 65 a) (σ : gSt) (x0 x1 : Int32) : Met l yX8_number (Cond.code yX8_number cX8_number 2 (some .int) :: gW) rmX8_number (g_Pc 65 D a (gE a cI σ) [(cI, .int)] [.int x0, .int x1]) (g_Qi 65 D a (gE a cI σ) (f_X8_number x0 x1)) 0 0 (g_Own 65 a) := by
  generalize hh : f_X8_number x0 x1 = out
  refine g_meti (by decide) hj (Nat.le_of_ble_eq_true rfl) ?_
  intro p e s m args below meth c Q ls F hl hI hq
  have hx := F.1.1
  have hb := F.1.2.1
  have hl : lv_has ls 2 [(0, .int x0), (1, .int x1)] := hl
  have h := hh
  unfold f_X8_number at h
  refine lv_iload_n hx hb dX8_number_0 rfl (lv_at hl 1 rfl) ?_
  refine lv_bipush (v := 12) hx hb dX8_number_1 (by decide) ?_
  refine lv_imul hx hb dX8_number_3 ?_
  refine lv_iload_n hx hb dX8_number_4 rfl (lv_at hl 0 rfl) ?_
  refine lv_iadd hx hb dX8_number_5 ?_
  subst h
  exact hq _ _ _ _ hI dX8_number_6
/-- Spurline$Terrain.has(II)Z -/
def f_X8_has (σ : gSt) (x1 x2 : Int32) : Int32 :=
  if x1 < 0 then
    0
  else
    if σ.2 0 ≤ x1 then
      0
    else
      if x2 < 0 then
        0
      else
        if σ.2 1 ≤ x2 then
          0
        else
          1
abbrev rmX8_has : Room := { frames := 0, cells := 0, slots := 0, locals := 0 }
theorem kb_X8_has : g_CB yX8_has cX8_has 3 (some .boolean) 2 := ⟨kc_X8_has, kn_X8, by decide +kernel⟩
set_option maxRecDepth 100000 in
set_option maxHeartbeats 4000000 in
theorem c_X8_has (l : Launch) (D : va_G) (a : Nat → Nat) (cI : ClassId) (hj : g_Inj 65 a) (σ : gSt) (x1 x2 : Int32) : Met l yX8_has (Cond.code yX8_has cX8_has 3 (some .boolean) :: gW) rmX8_has (g_Pc 65 D a (gE a cI σ) [(cI, .int)] [.ref (a 1), .int x1, .int x2]) (g_Qi 65 D a (gE a cI σ) (f_X8_has σ x1 x2)) 0 0 (g_Own 65 a) := by
  generalize hh : f_X8_has σ x1 x2 = out
  refine g_metz (by decide) hj (Nat.le_of_ble_eq_true rfl) ?_
  intro p e s m args below meth c Q ls F hl hI hq
  have hx := F.1.1
  have hb := F.1.2.1
  have hl : lv_has ls 3 [(0, .ref (a 1)), (1, .int x1), (2, .int x2)] := hl
  have h := hh
  unfold f_X8_has at h
  refine lv_iload_n hx hb dX8_has_0 rfl (lv_at hl 1 rfl) ?_
  refine lv_if_lt (tgt := 28) hx hb dX8_has_1 (by decide) (fun c_1 => ?_) (fun c_1 => ?_)
  · have h := (if_pos c_1).symm.trans h
    refine lv_iconst (v := 0) hx hb dX8_has_28 (by decide) ?_
    subst h
    exact hq _ _ _ _ _ (show (0 : Int32) &&& 1 = 0 from by decide) hI dX8_has_29
  · have h := (if_neg c_1).symm.trans h
    refine lv_iload_n hx hb dX8_has_4 rfl (lv_at hl 1 rfl) ?_
    refine lv_aload_n hx hb dX8_has_5 rfl (lv_at hl 0 rfl) ?_
    refine g_get F hI (by decide) gE_1 rfl ku_X8 0 (by decide) kf_X8_23 rfl dX8_has_6 ?_
    refine lv_icmp_ge (tgt := 28) hx hb dX8_has_9 (by decide) (fun c_9 => ?_) (fun c_9 => ?_)
    · have h := (if_pos c_9).symm.trans h
      refine lv_iconst (v := 0) hx hb dX8_has_28 (by decide) ?_
      subst h
      exact hq _ _ _ _ _ (show (0 : Int32) &&& 1 = 0 from by decide) hI dX8_has_29
    · have h := (if_neg c_9).symm.trans h
      refine lv_iload_n hx hb dX8_has_12 rfl (lv_at hl 2 rfl) ?_
      refine lv_if_lt (tgt := 28) hx hb dX8_has_13 (by decide) (fun c_13 => ?_) (fun c_13 => ?_)
      · have h := (if_pos c_13).symm.trans h
        refine lv_iconst (v := 0) hx hb dX8_has_28 (by decide) ?_
        subst h
        exact hq _ _ _ _ _ (show (0 : Int32) &&& 1 = 0 from by decide) hI dX8_has_29
      · have h := (if_neg c_13).symm.trans h
        refine lv_iload_n hx hb dX8_has_16 rfl (lv_at hl 2 rfl) ?_
        refine lv_aload_n hx hb dX8_has_17 rfl (lv_at hl 0 rfl) ?_
        refine g_get F hI (by decide) gE_1 rfl ku_X8 1 (by decide) kf_X8_27 rfl dX8_has_18 ?_
        refine lv_icmp_ge (tgt := 28) hx hb dX8_has_21 (by decide) (fun c_21 => ?_) (fun c_21 => ?_)
        · have h := (if_pos c_21).symm.trans h
          refine lv_iconst (v := 0) hx hb dX8_has_28 (by decide) ?_
          subst h
          exact hq _ _ _ _ _ (show (0 : Int32) &&& 1 = 0 from by decide) hI dX8_has_29
        · have h := (if_neg c_21).symm.trans h
          refine lv_iconst (v := 1) hx hb dX8_has_24 (by decide) ?_
          refine lv_goto (tgt := 29) hx hb dX8_has_25 (by decide) ?_
          subst h
          exact hq _ _ _ _ _ (show (1 : Int32) &&& 1 = 1 from by decide) hI dX8_has_29
/-- Spurline$Terrain.columns()I -/
def f_X8_columns (σ : gSt) : Int32 :=
  σ.2 0
abbrev rmX8_columns : Room := { frames := 0, cells := 0, slots := 0, locals := 0 }
theorem kb_X8_columns : g_CB yX8_columns cX8_columns 1 (some .int) 0 := ⟨kc_X8_columns, kn_X8, by decide +kernel⟩
set_option maxRecDepth 100000 in
set_option maxHeartbeats 4000000 in
theorem c_X8_columns (l : Launch) (D : va_G) (a : Nat → Nat) (cI : ClassId) (hj : g_Inj 65 a) (σ : gSt) : Met l yX8_columns (Cond.code yX8_columns cX8_columns 1 (some .int) :: gW) rmX8_columns (g_Pc 65 D a (gE a cI σ) [(cI, .int)] [.ref (a 1)]) (g_Qi 65 D a (gE a cI σ) (f_X8_columns σ)) 0 0 (g_Own 65 a) := by
  generalize hh : f_X8_columns σ = out
  refine g_meti (by decide) hj (Nat.le_of_ble_eq_true rfl) ?_
  intro p e s m args below meth c Q ls F hl hI hq
  have hx := F.1.1
  have hb := F.1.2.1
  have hl : lv_has ls 1 [(0, .ref (a 1))] := hl
  have h := hh
  unfold f_X8_columns at h
  refine lv_aload_n hx hb dX8_columns_0 rfl (lv_at hl 0 rfl) ?_
  refine g_get F hI (by decide) gE_1 rfl ku_X8 0 (by decide) kf_X8_23 rfl dX8_columns_1 ?_
  subst h
  exact hq _ _ _ _ hI dX8_columns_4
/-- Spurline$Terrain.rows()I -/
def f_X8_rows (σ : gSt) : Int32 :=
  σ.2 1
abbrev rmX8_rows : Room := { frames := 0, cells := 0, slots := 0, locals := 0 }
theorem kb_X8_rows : g_CB yX8_rows cX8_rows 1 (some .int) 0 := ⟨kc_X8_rows, kn_X8, by decide +kernel⟩
set_option maxRecDepth 100000 in
set_option maxHeartbeats 4000000 in
theorem c_X8_rows (l : Launch) (D : va_G) (a : Nat → Nat) (cI : ClassId) (hj : g_Inj 65 a) (σ : gSt) : Met l yX8_rows (Cond.code yX8_rows cX8_rows 1 (some .int) :: gW) rmX8_rows (g_Pc 65 D a (gE a cI σ) [(cI, .int)] [.ref (a 1)]) (g_Qi 65 D a (gE a cI σ) (f_X8_rows σ)) 0 0 (g_Own 65 a) := by
  generalize hh : f_X8_rows σ = out
  refine g_meti (by decide) hj (Nat.le_of_ble_eq_true rfl) ?_
  intro p e s m args below meth c Q ls F hl hI hq
  have hx := F.1.1
  have hb := F.1.2.1
  have hl : lv_has ls 1 [(0, .ref (a 1))] := hl
  have h := hh
  unfold f_X8_rows at h
  refine lv_aload_n hx hb dX8_rows_0 rfl (lv_at hl 0 rfl) ?_
  refine g_get F hI (by decide) gE_1 rfl ku_X8 1 (by decide) kf_X8_27 rfl dX8_rows_1 ?_
  subst h
  exact hq _ _ _ _ hI dX8_rows_4
/-- Spurline$Terrain.heightOf(I)I -/
def f_X8_heightOf (σ : gSt) (x1 : Int32) : Int32 :=
  gget σ 0 x1
abbrev rmX8_heightOf : Room := { frames := 1, cells := 0, slots := 0, locals := 21 }
theorem kb_X8_heightOf : g_CB yX8_heightOf cX8_heightOf 2 (some .int) 1 := ⟨kc_X8_heightOf, kn_X8, by decide +kernel⟩
set_option maxRecDepth 100000 in
set_option maxHeartbeats 4000000 in
theorem c_X8_heightOf (l : Launch) (D : va_G) (a : Nat → Nat) (cI : ClassId) (hj : g_Inj 65 a) (σ : gSt) (x1 : Int32) : Met l yX8_heightOf (Cond.code yX8_heightOf cX8_heightOf 2 (some .int) :: gW) rmX8_heightOf (g_Pc 65 D a (gE a cI σ) [(cI, .int)] [.ref (a 1), .int x1]) (g_Qi 65 D a (gE a cI σ) (f_X8_heightOf σ x1)) 0 0 (g_Own 65 a) := by
  generalize hh : f_X8_heightOf σ x1 = out
  refine g_meti (by decide) hj (Nat.le_of_ble_eq_true rfl) ?_
  intro p e s m args below meth c Q ls F hl hI hq
  have hx := F.1.1
  have hb := F.1.2.1
  have hl : lv_has ls 2 [(0, .ref (a 1)), (1, .int x1)] := hl
  have h := hh
  unfold f_X8_heightOf at h
  refine lv_aload_n hx hb dX8_heightOf_0 rfl (lv_at hl 0 rfl) ?_
  refine g_get F hI (by decide) gE_1 rfl ku_X8 2 (by decide) kf_X8_14 rfl dX8_heightOf_1 ?_
  refine lv_iload_n hx hb dX8_heightOf_4 rfl (lv_at hl 1 rfl) ?_
  refine g_rget F hI 0 (by decide) km_X8_30 ⟨Nat.le_of_ble_eq_true rfl, Nat.le_of_ble_eq_true rfl⟩ hl.1 (Nat.le_of_ble_eq_true rfl) ⟨Nat.zero_le _, Nat.zero_le _⟩ dX8_heightOf_5 (fun H locs hI => ?_)
  subst h
  exact hq _ _ _ _ hI dX8_heightOf_8
/-- Spurline$Terrain.groundOf(I)I -/
def f_X8_groundOf (σ : gSt) (x1 : Int32) : Int32 :=
  gget σ 1 x1
abbrev rmX8_groundOf : Room := { frames := 1, cells := 0, slots := 0, locals := 21 }
theorem kb_X8_groundOf : g_CB yX8_groundOf cX8_groundOf 2 (some .int) 1 := ⟨kc_X8_groundOf, kn_X8, by decide +kernel⟩
set_option maxRecDepth 100000 in
set_option maxHeartbeats 4000000 in
theorem c_X8_groundOf (l : Launch) (D : va_G) (a : Nat → Nat) (cI : ClassId) (hj : g_Inj 65 a) (σ : gSt) (x1 : Int32) : Met l yX8_groundOf (Cond.code yX8_groundOf cX8_groundOf 2 (some .int) :: gW) rmX8_groundOf (g_Pc 65 D a (gE a cI σ) [(cI, .int)] [.ref (a 1), .int x1]) (g_Qi 65 D a (gE a cI σ) (f_X8_groundOf σ x1)) 0 0 (g_Own 65 a) := by
  generalize hh : f_X8_groundOf σ x1 = out
  refine g_meti (by decide) hj (Nat.le_of_ble_eq_true rfl) ?_
  intro p e s m args below meth c Q ls F hl hI hq
  have hx := F.1.1
  have hb := F.1.2.1
  have hl : lv_has ls 2 [(0, .ref (a 1)), (1, .int x1)] := hl
  have h := hh
  unfold f_X8_groundOf at h
  refine lv_aload_n hx hb dX8_groundOf_0 rfl (lv_at hl 0 rfl) ?_
  refine g_get F hI (by decide) gE_1 rfl ku_X8 3 (by decide) kf_X8_20 rfl dX8_groundOf_1 ?_
  refine lv_iload_n hx hb dX8_groundOf_4 rfl (lv_at hl 1 rfl) ?_
  refine g_rget F hI 1 (by decide) km_X8_30 ⟨Nat.le_of_ble_eq_true rfl, Nat.le_of_ble_eq_true rfl⟩ hl.1 (Nat.le_of_ble_eq_true rfl) ⟨Nat.zero_le _, Nat.zero_le _⟩ dX8_groundOf_5 (fun H locs hI => ?_)
  subst h
  exact hq _ _ _ _ hI dX8_groundOf_8
/-- Spurline$Terrain.isForbidden(I)Z -/
def f_X8_isForbidden (σ : gSt) (x1 : Int32) : Int32 :=
  if gget σ 1 x1 = 4 then
    1
  else
    0
abbrev rmX8_isForbidden : Room := { frames := 1, cells := 0, slots := 0, locals := 21 }
theorem kb_X8_isForbidden : g_CB yX8_isForbidden cX8_isForbidden 2 (some .boolean) 1 := ⟨kc_X8_isForbidden, kn_X8, by decide +kernel⟩
set_option maxRecDepth 100000 in
set_option maxHeartbeats 4000000 in
theorem c_X8_isForbidden (l : Launch) (D : va_G) (a : Nat → Nat) (cI : ClassId) (hj : g_Inj 65 a) (σ : gSt) (x1 : Int32) : Met l yX8_isForbidden (Cond.code yX8_isForbidden cX8_isForbidden 2 (some .boolean) :: gW) rmX8_isForbidden (g_Pc 65 D a (gE a cI σ) [(cI, .int)] [.ref (a 1), .int x1]) (g_Qi 65 D a (gE a cI σ) (f_X8_isForbidden σ x1)) 0 0 (g_Own 65 a) := by
  generalize hh : f_X8_isForbidden σ x1 = out
  refine g_metz (by decide) hj (Nat.le_of_ble_eq_true rfl) ?_
  intro p e s m args below meth c Q ls F hl hI hq
  have hx := F.1.1
  have hb := F.1.2.1
  have hl : lv_has ls 2 [(0, .ref (a 1)), (1, .int x1)] := hl
  have h := hh
  unfold f_X8_isForbidden at h
  refine lv_aload_n hx hb dX8_isForbidden_0 rfl (lv_at hl 0 rfl) ?_
  refine g_get F hI (by decide) gE_1 rfl ku_X8 3 (by decide) kf_X8_20 rfl dX8_isForbidden_1 ?_
  refine lv_iload_n hx hb dX8_isForbidden_4 rfl (lv_at hl 1 rfl) ?_
  refine g_rget F hI 1 (by decide) km_X8_30 ⟨Nat.le_of_ble_eq_true rfl, Nat.le_of_ble_eq_true rfl⟩ hl.1 (Nat.le_of_ble_eq_true rfl) ⟨Nat.zero_le _, Nat.zero_le _⟩ dX8_isForbidden_5 (fun H locs hI => ?_)
  refine lv_iconst (v := 4) hx hb dX8_isForbidden_8 (by decide) ?_
  refine lv_icmp_ne (tgt := 16) hx hb dX8_isForbidden_9 (by decide) (fun c_9 => ?_) (fun c_9 => ?_)
  · have h := (if_neg c_9).symm.trans h
    refine lv_iconst (v := 0) hx hb dX8_isForbidden_16 (by decide) ?_
    subst h
    exact hq _ _ _ _ _ (show (0 : Int32) &&& 1 = 0 from by decide) hI dX8_isForbidden_17
  · have h := (if_pos c_9).symm.trans h
    refine lv_iconst (v := 1) hx hb dX8_isForbidden_12 (by decide) ?_
    refine lv_goto (tgt := 17) hx hb dX8_isForbidden_13 (by decide) ?_
    subst h
    exact hq _ _ _ _ _ (show (1 : Int32) &&& 1 = 1 from by decide) hI dX8_isForbidden_17
/-- Spurline$Terrain.replaceHeight(II)I -/
def f_X8_replaceHeight (σ : gSt) (x1 x2 : Int32) : Int32 × gSt :=
  (gget σ 0 x1, gput σ 0 x1 x2)
abbrev rmX8_replaceHeight : Room := { frames := 1, cells := 0, slots := 0, locals := 22 }
theorem kb_X8_replaceHeight : g_CB yX8_replaceHeight cX8_replaceHeight 4 (some .int) 2 := ⟨kc_X8_replaceHeight, kn_X8, by decide +kernel⟩
set_option maxRecDepth 100000 in
set_option maxHeartbeats 4000000 in
theorem c_X8_replaceHeight (l : Launch) (D : va_G) (a : Nat → Nat) (cI : ClassId) (hj : g_Inj 65 a) (σ : gSt) (x1 x2 : Int32) : Met l yX8_replaceHeight (Cond.code yX8_replaceHeight cX8_replaceHeight 4 (some .int) :: gW) rmX8_replaceHeight (g_Pc 65 D a (gE a cI σ) [(cI, .int)] [.ref (a 1), .int x1, .int x2]) (g_Qi 65 D a (gE a cI (f_X8_replaceHeight σ x1 x2).2) (f_X8_replaceHeight σ x1 x2).1) 0 0 (g_Own 65 a) := by
  generalize hh : f_X8_replaceHeight σ x1 x2 = out
  refine g_meti (by decide) hj (Nat.le_of_ble_eq_true rfl) ?_
  intro p e s m args below meth c Q ls F hl hI hq
  have hx := F.1.1
  have hb := F.1.2.1
  have hl : lv_has ls 4 [(0, .ref (a 1)), (1, .int x1), (2, .int x2)] := hl
  have h := hh
  unfold f_X8_replaceHeight at h
  refine lv_aload_n hx hb dX8_replaceHeight_0 rfl (lv_at hl 0 rfl) ?_
  refine g_get F hI (by decide) gE_1 rfl ku_X8 2 (by decide) kf_X8_14 rfl dX8_replaceHeight_1 ?_
  refine lv_iload_n hx hb dX8_replaceHeight_4 rfl (lv_at hl 1 rfl) ?_
  refine g_rget F hI 0 (by decide) km_X8_30 ⟨Nat.le_of_ble_eq_true rfl, Nat.le_of_ble_eq_true rfl⟩ hl.1 (Nat.le_of_ble_eq_true rfl) ⟨Nat.zero_le _, Nat.zero_le _⟩ dX8_replaceHeight_5 (fun H locs hI => ?_)
  refine lv_istore_n (lv' := [(3, .int (gget σ 0 x1)), (0, .ref (a 1)), (1, .int x1), (2, .int x2)]) hx hb dX8_replaceHeight_8 rfl hl (by decide) rfl (fun ls hl => ?_)
  refine lv_aload_n hx hb dX8_replaceHeight_9 rfl (lv_at hl 1 rfl) ?_
  refine g_get F hI (by decide) gE_1 rfl ku_X8 2 (by decide) kf_X8_14 rfl dX8_replaceHeight_10 ?_
  refine lv_iload_n hx hb dX8_replaceHeight_13 rfl (lv_at hl 2 rfl) ?_
  refine lv_iload_n hx hb dX8_replaceHeight_14 rfl (lv_at hl 3 rfl) ?_
  refine g_rput F hI 0 (by decide) km_X8_34 ⟨Nat.le_of_ble_eq_true rfl, Nat.le_of_ble_eq_true rfl⟩ hl.1 (Nat.le_of_ble_eq_true rfl) ⟨Nat.zero_le _, Nat.zero_le _⟩ dX8_replaceHeight_15 (fun H locs hI => ?_)
  refine lv_iload_n hx hb dX8_replaceHeight_18 rfl (lv_at hl 0 rfl) ?_
  subst h
  exact hq _ _ _ _ hI dX8_replaceHeight_19
/-- Spurline$Terrain.raiseAround(IIII)I -/
def f_X8_raiseAround (N : Nat) (σ : gSt) (x1 x2 x3 x4 : Int32) : Option (Int32 × gSt) :=
  gLoop3 (fun self6 (v5_6 : Int32) (v6_6 : Int32) (s_6 : gSt) =>
    if s_6.2 1 ≤ v6_6 then
      some (v5_6, s_6)
    else
      gLoop3 (fun self18 (v5_18 : Int32) (v7_18 : Int32) (s_18 : gSt) =>
        if s_18.2 0 ≤ v7_18 then
          self6 v5_18 (v6_6 + 1) s_18
        else
          gJoin2 (fun (v5_93 : Int32) (s_93 : gSt) =>
              self18 v5_93 (v7_18 + 1) s_93) (fun j93 =>
            if x3 - (x4 * (jmax (jabs (v7_18 - x1)) (jabs (v6_6 - x2)))) ≤ gget s_18 0 (f_X8_number v7_18 v6_6) then
              j93 v5_18 s_18
            else
              j93 (v5_18 + 1) (gput s_18 0 (f_X8_number v7_18 v6_6) (x3 - (x4 * (jmax (jabs (v7_18 - x1)) (jabs (v6_6 - x2)))))))) N v5_6 0 s_6) N 0 0 σ
abbrev rmX8_raiseAround : Room := { frames := 1, cells := 0, slots := 0, locals := 22 }
theorem kb_X8_raiseAround : g_CB yX8_raiseAround cX8_raiseAround 10 (some .int) 4 := ⟨kc_X8_raiseAround, kn_X8, by decide +kernel⟩
set_option maxRecDepth 100000 in
set_option maxHeartbeats 4000000 in
theorem c_X8_raiseAround (l : Launch) (D : va_G) (a : Nat → Nat) (cI : ClassId) (hj : g_Inj 65 a) (N : Nat) (σ : gSt) (x1 x2 x3 x4 : Int32) (out : Int32 × gSt) (hh : f_X8_raiseAround N σ x1 x2 x3 x4 = some out) : Met l yX8_raiseAround (Cond.code yX8_raiseAround cX8_raiseAround 10 (some .int) :: gW) rmX8_raiseAround (g_Pc 65 D a (gE a cI σ) [(cI, .int)] [.ref (a 1), .int x1, .int x2, .int x3, .int x4]) (g_Qi 65 D a (gE a cI out.2) out.1) 0 0 (g_Own 65 a) := by
  refine g_meti (by decide) hj (Nat.le_of_ble_eq_true rfl) ?_
  intro p e s m args below meth c Q ls F hl hI hq
  have hx := F.1.1
  have hb := F.1.2.1
  have hl : lv_has ls 10 [(0, .ref (a 1)), (1, .int x1), (2, .int x2), (3, .int x3), (4, .int x4)] := hl
  have h := hh
  unfold f_X8_raiseAround at h
  refine lv_iconst (v := 0) hx hb dX8_raiseAround_0 (by decide) ?_
  refine lv_istore (lv' := [(5, .int 0), (0, .ref (a 1)), (1, .int x1), (2, .int x2), (3, .int x3), (4, .int x4)]) hx hb dX8_raiseAround_1 hl (by decide) rfl (fun ls hl => ?_)
  refine lv_iconst (v := 0) hx hb dX8_raiseAround_3 (by decide) ?_
  refine lv_istore (lv' := [(6, .int 0), (5, .int 0), (0, .ref (a 1)), (1, .int x1), (2, .int x2), (3, .int x3), (4, .int x4)]) hx hb dX8_raiseAround_4 hl (by decide) rfl (fun ls hl => ?_)
  obtain ⟨lp6, hz6, hs6, h⟩ := gLoop3_in h
  have L6 : ∀ (n : Nat) (v5_6 : Int32) (v6_6 : Int32) (s_6 : gSt) (H : Heap) (locs : List Loc) (ls : Array Slot), lp6 n v5_6 v6_6 s_6 = some out → g_S 65 D a (gE a cI s_6) s.heap H locs → lv_has ls 10 [(0, .ref (a 1)), (1, .int x1), (2, .int x2), (3, .int x3), (4, .int x4), (5, .int v5_6), (6, .int v6_6)] → W p l e rmX8_raiseAround s m args below meth c H locs 0 0 Q (F0 m 6 ls []) := by
    intro n
    induction n with
    | zero => intro v5_6 v6_6 s_6 H locs ls h; rw [hz6] at h; cases h
    | succ n ih6 =>
      intro v5_6 v6_6 s_6 H locs ls h hI hl
      rw [hs6] at h
      refine lv_iload hx hb dX8_raiseAround_6 (lv_at hl 6 rfl) ?_
      refine lv_aload_n hx hb dX8_raiseAround_8 rfl (lv_at hl 0 rfl) ?_
      refine g_get F hI (by decide) gE_1 rfl ku_X8 1 (by decide) kf_X8_27 rfl dX8_raiseAround_9 ?_
      refine lv_icmp_ge (tgt := 105) hx hb dX8_raiseAround_12 (by decide) (fun c_12 => ?_) (fun c_12 => ?_)
      · have h := (if_pos c_12).symm.trans h
        refine lv_iload hx hb dX8_raiseAround_105 (lv_at hl 5 rfl) ?_
        have h := Option.some.inj h
        subst h
        exact hq _ _ _ _ hI dX8_raiseAround_107
      · have h := (if_neg c_12).symm.trans h
        refine lv_iconst (v := 0) hx hb dX8_raiseAround_15 (by decide) ?_
        refine lv_istore (lv' := [(7, .int 0), (0, .ref (a 1)), (1, .int x1), (2, .int x2), (3, .int x3), (4, .int x4), (5, .int v5_6), (6, .int v6_6)]) hx hb dX8_raiseAround_16 hl (by decide) rfl (fun ls hl => ?_)
        obtain ⟨lp18, hz18, hs18, h⟩ := gLoop3_in h
        have L18 : ∀ (n : Nat) (v5_18 : Int32) (v7_18 : Int32) (s_18 : gSt) (H : Heap) (locs : List Loc) (ls : Array Slot), lp18 n v5_18 v7_18 s_18 = some out → g_S 65 D a (gE a cI s_18) s.heap H locs → lv_has ls 10 [(0, .ref (a 1)), (1, .int x1), (2, .int x2), (3, .int x3), (4, .int x4), (5, .int v5_18), (6, .int v6_6), (7, .int v7_18)] → W p l e rmX8_raiseAround s m args below meth c H locs 0 0 Q (F0 m 18 ls []) := by
          intro n
          induction n with
          | zero => intro v5_18 v7_18 s_18 H locs ls h; rw [hz18] at h; cases h
          | succ n ih18 =>
            intro v5_18 v7_18 s_18 H locs ls h hI hl
            rw [hs18] at h
            refine lv_iload hx hb dX8_raiseAround_18 (lv_at hl 7 rfl) ?_
            refine lv_aload_n hx hb dX8_raiseAround_20 rfl (lv_at hl 0 rfl) ?_
            refine g_get F hI (by decide) gE_1 rfl ku_X8 0 (by decide) kf_X8_23 rfl dX8_raiseAround_21 ?_
            refine lv_icmp_ge (tgt := 99) hx hb dX8_raiseAround_24 (by decide) (fun c_24 => ?_) (fun c_24 => ?_)
            · have h := (if_pos c_24).symm.trans h
              refine lv_iinc (v := v6_6 + 1) (lv' := [(6, .int (v6_6 + 1)), (0, .ref (a 1)), (1, .int x1), (2, .int x2), (3, .int x3), (4, .int x4), (5, .int v5_18), (7, .int v7_18)]) hx hb dX8_raiseAround_99 hl (k := 6) rfl rfl (by decide) rfl (fun ls hl => ?_)
              refine lv_goto (tgt := 6) hx hb dX8_raiseAround_102 (by decide) ?_
              exact ih6 _ _ _ _ _ _ h hI (lv_sub hl [1, 2, 3, 4, 5, 6, 0] rfl)
            · have h := (if_neg c_24).symm.trans h
              refine lv_iload hx hb dX8_raiseAround_27 (lv_at hl 7 rfl) ?_
              refine lv_iload_n hx hb dX8_raiseAround_29 rfl (lv_at hl 1 rfl) ?_
              refine lv_isub hx hb dX8_raiseAround_30 ?_
              refine g_mabs F hl.1 km_X8_38 ⟨Nat.le_of_ble_eq_true rfl, Nat.le_of_ble_eq_true rfl⟩ ⟨Nat.zero_le _, Nat.zero_le _⟩ dX8_raiseAround_31 ?_
              refine lv_iload hx hb dX8_raiseAround_34 (lv_at hl 6 rfl) ?_
              refine lv_iload_n hx hb dX8_raiseAround_36 rfl (lv_at hl 2 rfl) ?_
              refine lv_isub hx hb dX8_raiseAround_37 ?_
              refine g_mabs F hl.1 km_X8_38 ⟨Nat.le_of_ble_eq_true rfl, Nat.le_of_ble_eq_true rfl⟩ ⟨Nat.zero_le _, Nat.zero_le _⟩ dX8_raiseAround_38 ?_
              refine g_mmax F hl.1 km_X8_43 ⟨Nat.le_of_ble_eq_true rfl, Nat.le_of_ble_eq_true rfl⟩ ⟨Nat.zero_le _, Nat.zero_le _⟩ dX8_raiseAround_41 ?_
              refine lv_istore (lv' := [(8, .int (jmax (jabs (v7_18 - x1)) (jabs (v6_6 - x2)))), (0, .ref (a 1)), (1, .int x1), (2, .int x2), (3, .int x3), (4, .int x4), (5, .int v5_18), (6, .int v6_6), (7, .int v7_18)]) hx hb dX8_raiseAround_44 hl (by decide) rfl (fun ls hl => ?_)
              refine lv_iload_n hx hb dX8_raiseAround_46 rfl (lv_at hl 4 rfl) ?_
              refine lv_iload hx hb dX8_raiseAround_47 (lv_at hl 5 rfl) ?_
              refine lv_iload hx hb dX8_raiseAround_49 (lv_at hl 0 rfl) ?_
              refine lv_imul hx hb dX8_raiseAround_51 ?_
              refine lv_isub hx hb dX8_raiseAround_52 ?_
              refine lv_istore (lv' := [(9, .int (x3 - (x4 * (jmax (jabs (v7_18 - x1)) (jabs (v6_6 - x2)))))), (8, .int (jmax (jabs (v7_18 - x1)) (jabs (v6_6 - x2)))), (0, .ref (a 1)), (1, .int x1), (2, .int x2), (3, .int x3), (4, .int x4), (5, .int v5_18), (6, .int v6_6), (7, .int v7_18)]) hx hb dX8_raiseAround_53 hl (by decide) rfl (fun ls hl => ?_)
              refine lv_aload_n hx hb dX8_raiseAround_55 rfl (lv_at hl 2 rfl) ?_
              refine g_get F hI (by decide) gE_1 rfl ku_X8 2 (by decide) kf_X8_14 rfl dX8_raiseAround_56 ?_
              refine lv_iload hx hb dX8_raiseAround_59 (lv_at hl 9 rfl) ?_
              refine lv_iload hx hb dX8_raiseAround_61 (lv_at hl 8 rfl) ?_
              refine g_callSi (E' := gE a cI s_18) (As := [.int v7_18, .int v6_6]) (rest := [.ref (a 9)]) F hI (c_X8_number l D a cI F.2.2 s_18 v7_18 v6_6) kb_X8_number kt_X8_number km_X8_47 ⟨Nat.le_of_ble_eq_true rfl, Nat.le_of_ble_eq_true rfl, rfl, rfl⟩ hl.1 rfl (Nat.le_of_ble_eq_true rfl) ⟨Nat.zero_le _, Nat.zero_le _⟩ dX8_raiseAround_63 (fun H locs hI => ?_)
              refine g_rget F hI 0 (by decide) km_X8_30 ⟨Nat.le_of_ble_eq_true rfl, Nat.le_of_ble_eq_true rfl⟩ hl.1 (Nat.le_of_ble_eq_true rfl) ⟨Nat.zero_le _, Nat.zero_le _⟩ dX8_raiseAround_66 (fun H locs hI => ?_)
              refine lv_iload hx hb dX8_raiseAround_69 (lv_at hl 0 rfl) ?_
              obtain ⟨j93, hj93, h⟩ := gJoin2_in h
              have J93 : ∀ (v5_93 : Int32) (s_93 : gSt) (H : Heap) (locs : List Loc) (ls : Array Slot), j93 v5_93 s_93 = some out → g_S 65 D a (gE a cI s_93) s.heap H locs → lv_has ls 10 [(0, .ref (a 1)), (1, .int x1), (2, .int x2), (3, .int x3), (4, .int x4), (5, .int v5_93), (6, .int v6_6), (7, .int v7_18)] → W p l e rmX8_raiseAround s m args below meth c H locs 0 0 Q (F0 m 93 ls []) := by
                intro v5_93 s_93 H locs ls h hI hl
                rw [hj93] at h
                refine lv_iinc (v := v7_18 + 1) (lv' := [(7, .int (v7_18 + 1)), (0, .ref (a 1)), (1, .int x1), (2, .int x2), (3, .int x3), (4, .int x4), (5, .int v5_93), (6, .int v6_6)]) hx hb dX8_raiseAround_93 hl (k := 7) rfl rfl (by decide) rfl (fun ls hl => ?_)
                refine lv_goto (tgt := 18) hx hb dX8_raiseAround_96 (by decide) ?_
                exact ih18 _ _ _ _ _ _ h hI (lv_sub hl [1, 2, 3, 4, 5, 6, 7, 0] rfl)
              refine lv_icmp_ge (tgt := 93) hx hb dX8_raiseAround_71 (by decide) (fun c_71 => ?_) (fun c_71 => ?_)
              · have h := (if_pos c_71).symm.trans h
                exact J93 _ _ _ _ _ h hI (lv_sub hl [2, 3, 4, 5, 6, 7, 8, 9] rfl)
              · have h := (if_neg c_71).symm.trans h
                refine lv_aload_n hx hb dX8_raiseAround_74 rfl (lv_at hl 2 rfl) ?_
                refine g_get F hI (by decide) gE_1 rfl ku_X8 2 (by decide) kf_X8_14 rfl dX8_raiseAround_75 ?_
                refine lv_iload hx hb dX8_raiseAround_78 (lv_at hl 9 rfl) ?_
                refine lv_iload hx hb dX8_raiseAround_80 (lv_at hl 8 rfl) ?_
                refine g_callSi (E' := gE a cI s_18) (As := [.int v7_18, .int v6_6]) (rest := [.ref (a 9)]) F hI (c_X8_number l D a cI F.2.2 s_18 v7_18 v6_6) kb_X8_number kt_X8_number km_X8_47 ⟨Nat.le_of_ble_eq_true rfl, Nat.le_of_ble_eq_true rfl, rfl, rfl⟩ hl.1 rfl (Nat.le_of_ble_eq_true rfl) ⟨Nat.zero_le _, Nat.zero_le _⟩ dX8_raiseAround_82 (fun H locs hI => ?_)
                refine lv_iload hx hb dX8_raiseAround_85 (lv_at hl 0 rfl) ?_
                refine g_rput F hI 0 (by decide) km_X8_34 ⟨Nat.le_of_ble_eq_true rfl, Nat.le_of_ble_eq_true rfl⟩ hl.1 (Nat.le_of_ble_eq_true rfl) ⟨Nat.zero_le _, Nat.zero_le _⟩ dX8_raiseAround_87 (fun H locs hI => ?_)
                refine lv_iinc (v := v5_18 + 1) (lv' := [(5, .int (v5_18 + 1)), (9, .int (x3 - (x4 * (jmax (jabs (v7_18 - x1)) (jabs (v6_6 - x2)))))), (8, .int (jmax (jabs (v7_18 - x1)) (jabs (v6_6 - x2)))), (0, .ref (a 1)), (1, .int x1), (2, .int x2), (3, .int x3), (4, .int x4), (6, .int v6_6), (7, .int v7_18)]) hx hb dX8_raiseAround_90 hl (k := 7) rfl rfl (by decide) rfl (fun ls hl => ?_)
                exact J93 _ _ _ _ _ h hI (lv_sub hl [3, 4, 5, 6, 7, 0, 8, 9] rfl)
        exact L18 _ _ _ _ _ _ _ h hI (lv_sub hl [1, 2, 3, 4, 5, 6, 7, 0] rfl)
  exact L6 _ _ _ _ _ _ _ h hI (lv_sub hl [2, 3, 4, 5, 6, 1, 0] rfl)
/-- Spurline$Terrain.cover(IIIII)I -/
def f_X8_cover (N : Nat) (σ : gSt) (x1 x2 x3 x4 x5 : Int32) : Option (Int32 × gSt) :=
  gLoop3 (fun self6 (v6_6 : Int32) (v7_6 : Int32) (s_6 : gSt) =>
    if s_6.2 1 ≤ v7_6 then
      some (v6_6, s_6)
    else
      if x4 < v7_6 then
        some (v6_6, s_6)
      else
        gLoop3 (fun self25 (v6_25 : Int32) (v8_25 : Int32) (s_25 : gSt) =>
          gJoin0 (
              self6 v6_25 (v7_6 + 1) s_25) (fun j84 =>
            if s_25.2 0 ≤ v8_25 then
              j84
            else
              if x3 < v8_25 then
                j84
              else
                gJoin2 (fun (v6_78 : Int32) (s_78 : gSt) =>
                    self25 v6_78 (v8_25 + 1) s_78) (fun j78 =>
                  if gget s_25 1 (f_X8_number v8_25 v7_6) = x5 then
                    j78 v6_25 s_25
                  else
                    j78 (v6_25 + 1) (gput s_25 1 (f_X8_number v8_25 v7_6) x5)))) N v6_6 x1 s_6) N 0 x2 σ
abbrev rmX8_cover : Room := { frames := 1, cells := 0, slots := 0, locals := 22 }
theorem kb_X8_cover : g_CB yX8_cover cX8_cover 9 (some .int) 5 := ⟨kc_X8_cover, kn_X8, by decide +kernel⟩
set_option maxRecDepth 100000 in
set_option maxHeartbeats 4000000 in
theorem c_X8_cover (l : Launch) (D : va_G) (a : Nat → Nat) (cI : ClassId) (hj : g_Inj 65 a) (N : Nat) (σ : gSt) (x1 x2 x3 x4 x5 : Int32) (out : Int32 × gSt) (hh : f_X8_cover N σ x1 x2 x3 x4 x5 = some out) : Met l yX8_cover (Cond.code yX8_cover cX8_cover 9 (some .int) :: gW) rmX8_cover (g_Pc 65 D a (gE a cI σ) [(cI, .int)] [.ref (a 1), .int x1, .int x2, .int x3, .int x4, .int x5]) (g_Qi 65 D a (gE a cI out.2) out.1) 0 0 (g_Own 65 a) := by
  refine g_meti (by decide) hj (Nat.le_of_ble_eq_true rfl) ?_
  intro p e s m args below meth c Q ls F hl hI hq
  have hx := F.1.1
  have hb := F.1.2.1
  have hl : lv_has ls 9 [(0, .ref (a 1)), (1, .int x1), (2, .int x2), (3, .int x3), (4, .int x4), (5, .int x5)] := hl
  have h := hh
  unfold f_X8_cover at h
  refine lv_iconst (v := 0) hx hb dX8_cover_0 (by decide) ?_
  refine lv_istore (lv' := [(6, .int 0), (0, .ref (a 1)), (1, .int x1), (2, .int x2), (3, .int x3), (4, .int x4), (5, .int x5)]) hx hb dX8_cover_1 hl (by decide) rfl (fun ls hl => ?_)
  refine lv_iload_n hx hb dX8_cover_3 rfl (lv_at hl 3 rfl) ?_
  refine lv_istore (lv' := [(7, .int x2), (6, .int 0), (0, .ref (a 1)), (1, .int x1), (2, .int x2), (3, .int x3), (4, .int x4), (5, .int x5)]) hx hb dX8_cover_4 hl (by decide) rfl (fun ls hl => ?_)
  obtain ⟨lp6, hz6, hs6, h⟩ := gLoop3_in h
  have L6 : ∀ (n : Nat) (v6_6 : Int32) (v7_6 : Int32) (s_6 : gSt) (H : Heap) (locs : List Loc) (ls : Array Slot), lp6 n v6_6 v7_6 s_6 = some out → g_S 65 D a (gE a cI s_6) s.heap H locs → lv_has ls 9 [(0, .ref (a 1)), (1, .int x1), (3, .int x3), (4, .int x4), (5, .int x5), (6, .int v6_6), (7, .int v7_6)] → W p l e rmX8_cover s m args below meth c H locs 0 0 Q (F0 m 6 ls []) := by
    intro n
    induction n with
    | zero => intro v6_6 v7_6 s_6 H locs ls h; rw [hz6] at h; cases h
    | succ n ih6 =>
      intro v6_6 v7_6 s_6 H locs ls h hI hl
      rw [hs6] at h
      refine lv_iload hx hb dX8_cover_6 (lv_at hl 6 rfl) ?_
      refine lv_aload_n hx hb dX8_cover_8 rfl (lv_at hl 0 rfl) ?_
      refine g_get F hI (by decide) gE_1 rfl ku_X8 1 (by decide) kf_X8_27 rfl dX8_cover_9 ?_
      refine lv_icmp_ge (tgt := 90) hx hb dX8_cover_12 (by decide) (fun c_12 => ?_) (fun c_12 => ?_)
      · have h := (if_pos c_12).symm.trans h
        refine lv_iload hx hb dX8_cover_90 (lv_at hl 5 rfl) ?_
        have h := Option.some.inj h
        subst h
        exact hq _ _ _ _ hI dX8_cover_92
      · have h := (if_neg c_12).symm.trans h
        refine lv_iload hx hb dX8_cover_15 (lv_at hl 6 rfl) ?_
        refine lv_iload hx hb dX8_cover_17 (lv_at hl 3 rfl) ?_
        refine lv_icmp_gt (tgt := 90) hx hb dX8_cover_19 (by decide) (fun c_19 => ?_) (fun c_19 => ?_)
        · have h := (if_pos c_19).symm.trans h
          refine lv_iload hx hb dX8_cover_90 (lv_at hl 5 rfl) ?_
          have h := Option.some.inj h
          subst h
          exact hq _ _ _ _ hI dX8_cover_92
        · have h := (if_neg c_19).symm.trans h
          refine lv_iload_n hx hb dX8_cover_22 rfl (lv_at hl 1 rfl) ?_
          refine lv_istore (lv' := [(8, .int x1), (0, .ref (a 1)), (1, .int x1), (3, .int x3), (4, .int x4), (5, .int x5), (6, .int v6_6), (7, .int v7_6)]) hx hb dX8_cover_23 hl (by decide) rfl (fun ls hl => ?_)
          obtain ⟨lp25, hz25, hs25, h⟩ := gLoop3_in h
          have L25 : ∀ (n : Nat) (v6_25 : Int32) (v8_25 : Int32) (s_25 : gSt) (H : Heap) (locs : List Loc) (ls : Array Slot), lp25 n v6_25 v8_25 s_25 = some out → g_S 65 D a (gE a cI s_25) s.heap H locs → lv_has ls 9 [(0, .ref (a 1)), (1, .int x1), (3, .int x3), (4, .int x4), (5, .int x5), (6, .int v6_25), (7, .int v7_6), (8, .int v8_25)] → W p l e rmX8_cover s m args below meth c H locs 0 0 Q (F0 m 25 ls []) := by
            intro n
            induction n with
            | zero => intro v6_25 v8_25 s_25 H locs ls h; rw [hz25] at h; cases h
            | succ n ih25 =>
              intro v6_25 v8_25 s_25 H locs ls h hI hl
              rw [hs25] at h
              refine lv_iload hx hb dX8_cover_25 (lv_at hl 7 rfl) ?_
              refine lv_aload_n hx hb dX8_cover_27 rfl (lv_at hl 0 rfl) ?_
              refine g_get F hI (by decide) gE_1 rfl ku_X8 0 (by decide) kf_X8_23 rfl dX8_cover_28 ?_
              obtain ⟨j84, hj84, h⟩ := gJoin0_in h
              have J84 : ∀ (H : Heap) (locs : List Loc) (ls : Array Slot), j84  = some out → g_S 65 D a (gE a cI s_25) s.heap H locs → lv_has ls 9 [(0, .ref (a 1)), (1, .int x1), (3, .int x3), (4, .int x4), (5, .int x5), (6, .int v6_25), (7, .int v7_6)] → W p l e rmX8_cover s m args below meth c H locs 0 0 Q (F0 m 84 ls []) := by
                intro  H locs ls h hI hl
                rw [hj84] at h
                refine lv_iinc (v := v7_6 + 1) (lv' := [(7, .int (v7_6 + 1)), (0, .ref (a 1)), (1, .int x1), (3, .int x3), (4, .int x4), (5, .int x5), (6, .int v6_25)]) hx hb dX8_cover_84 hl (k := 6) rfl rfl (by decide) rfl (fun ls hl => ?_)
                refine lv_goto (tgt := 6) hx hb dX8_cover_87 (by decide) ?_
                exact ih6 _ _ _ _ _ _ h hI (lv_sub hl [1, 2, 3, 4, 5, 6, 0] rfl)
              refine lv_icmp_ge (tgt := 84) hx hb dX8_cover_31 (by decide) (fun c_31 => ?_) (fun c_31 => ?_)
              · have h := (if_pos c_31).symm.trans h
                exact J84 _ _ _ h hI (lv_sub hl [0, 1, 2, 3, 4, 5, 6] rfl)
              · have h := (if_neg c_31).symm.trans h
                refine lv_iload hx hb dX8_cover_34 (lv_at hl 7 rfl) ?_
                refine lv_iload_n hx hb dX8_cover_36 rfl (lv_at hl 2 rfl) ?_
                refine lv_icmp_gt (tgt := 84) hx hb dX8_cover_37 (by decide) (fun c_37 => ?_) (fun c_37 => ?_)
                · have h := (if_pos c_37).symm.trans h
                  exact J84 _ _ _ h hI (lv_sub hl [0, 1, 2, 3, 4, 5, 6] rfl)
                · have h := (if_neg c_37).symm.trans h
                  refine lv_aload_n hx hb dX8_cover_40 rfl (lv_at hl 0 rfl) ?_
                  refine g_get F hI (by decide) gE_1 rfl ku_X8 3 (by decide) kf_X8_20 rfl dX8_cover_41 ?_
                  refine lv_iload hx hb dX8_cover_44 (lv_at hl 7 rfl) ?_
                  refine lv_iload hx hb dX8_cover_46 (lv_at hl 6 rfl) ?_
                  refine g_callSi (E' := gE a cI s_25) (As := [.int v8_25, .int v7_6]) (rest := [.ref (a 10)]) F hI (c_X8_number l D a cI F.2.2 s_25 v8_25 v7_6) kb_X8_number kt_X8_number km_X8_47 ⟨Nat.le_of_ble_eq_true rfl, Nat.le_of_ble_eq_true rfl, rfl, rfl⟩ hl.1 rfl (Nat.le_of_ble_eq_true rfl) ⟨Nat.zero_le _, Nat.zero_le _⟩ dX8_cover_48 (fun H locs hI => ?_)
                  refine g_rget F hI 1 (by decide) km_X8_30 ⟨Nat.le_of_ble_eq_true rfl, Nat.le_of_ble_eq_true rfl⟩ hl.1 (Nat.le_of_ble_eq_true rfl) ⟨Nat.zero_le _, Nat.zero_le _⟩ dX8_cover_51 (fun H locs hI => ?_)
                  refine lv_iload hx hb dX8_cover_54 (lv_at hl 4 rfl) ?_
                  obtain ⟨j78, hj78, h⟩ := gJoin2_in h
                  have J78 : ∀ (v6_78 : Int32) (s_78 : gSt) (H : Heap) (locs : List Loc) (ls : Array Slot), j78 v6_78 s_78 = some out → g_S 65 D a (gE a cI s_78) s.heap H locs → lv_has ls 9 [(0, .ref (a 1)), (1, .int x1), (3, .int x3), (4, .int x4), (5, .int x5), (6, .int v6_78), (7, .int v7_6), (8, .int v8_25)] → W p l e rmX8_cover s m args below meth c H locs 0 0 Q (F0 m 78 ls []) := by
                    intro v6_78 s_78 H locs ls h hI hl
                    rw [hj78] at h
                    refine lv_iinc (v := v8_25 + 1) (lv' := [(8, .int (v8_25 + 1)), (0, .ref (a 1)), (1, .int x1), (3, .int x3), (4, .int x4), (5, .int x5), (6, .int v6_78), (7, .int v7_6)]) hx hb dX8_cover_78 hl (k := 7) rfl rfl (by decide) rfl (fun ls hl => ?_)
                    refine lv_goto (tgt := 25) hx hb dX8_cover_81 (by decide) ?_
                    exact ih25 _ _ _ _ _ _ h hI (lv_sub hl [1, 2, 3, 4, 5, 6, 7, 0] rfl)
                  refine lv_icmp_eq (tgt := 78) hx hb dX8_cover_56 (by decide) (fun c_56 => ?_) (fun c_56 => ?_)
                  · have h := (if_pos c_56).symm.trans h
                    exact J78 _ _ _ _ _ h hI (lv_sub hl [0, 1, 2, 3, 4, 5, 6, 7] rfl)
                  · have h := (if_neg c_56).symm.trans h
                    refine lv_aload_n hx hb dX8_cover_59 rfl (lv_at hl 0 rfl) ?_
                    refine g_get F hI (by decide) gE_1 rfl ku_X8 3 (by decide) kf_X8_20 rfl dX8_cover_60 ?_
                    refine lv_iload hx hb dX8_cover_63 (lv_at hl 7 rfl) ?_
                    refine lv_iload hx hb dX8_cover_65 (lv_at hl 6 rfl) ?_
                    refine g_callSi (E' := gE a cI s_25) (As := [.int v8_25, .int v7_6]) (rest := [.ref (a 10)]) F hI (c_X8_number l D a cI F.2.2 s_25 v8_25 v7_6) kb_X8_number kt_X8_number km_X8_47 ⟨Nat.le_of_ble_eq_true rfl, Nat.le_of_ble_eq_true rfl, rfl, rfl⟩ hl.1 rfl (Nat.le_of_ble_eq_true rfl) ⟨Nat.zero_le _, Nat.zero_le _⟩ dX8_cover_67 (fun H locs hI => ?_)
                    refine lv_iload hx hb dX8_cover_70 (lv_at hl 4 rfl) ?_
                    refine g_rput F hI 1 (by decide) km_X8_34 ⟨Nat.le_of_ble_eq_true rfl, Nat.le_of_ble_eq_true rfl⟩ hl.1 (Nat.le_of_ble_eq_true rfl) ⟨Nat.zero_le _, Nat.zero_le _⟩ dX8_cover_72 (fun H locs hI => ?_)
                    refine lv_iinc (v := v6_25 + 1) (lv' := [(6, .int (v6_25 + 1)), (0, .ref (a 1)), (1, .int x1), (3, .int x3), (4, .int x4), (5, .int x5), (7, .int v7_6), (8, .int v8_25)]) hx hb dX8_cover_75 hl (k := 5) rfl rfl (by decide) rfl (fun ls hl => ?_)
                    exact J78 _ _ _ _ _ h hI (lv_sub hl [1, 2, 3, 4, 5, 0, 6, 7] rfl)
          exact L25 _ _ _ _ _ _ _ h hI (lv_sub hl [1, 2, 3, 4, 5, 6, 7, 0] rfl)
  exact L6 _ _ _ _ _ _ _ h hI (lv_sub hl [2, 3, 5, 6, 7, 1, 0] rfl)
/-- Spurline$Terrain.beyond(II)I -/
def f_X8_beyond (σ : gSt) (x1 x2 : Int32) : Int32 :=
  gJoin2 (fun (v3_61 : Int32) (v4_61 : Int32) =>
      if f_X8_has σ v3_61 v4_61 = 0 then
        (-1)
      else
        f_X8_number v3_61 v4_61) (fun j61 =>
    if x2 = 0 then
      j61 ((x1 - x1 / 12 * 12) + 1) (x1 / 12)
    else
      if x2 = 1 then
        j61 ((x1 - x1 / 12 * 12) + (-1)) (x1 / 12)
      else
        if x2 = 2 then
          j61 (x1 - x1 / 12 * 12) ((x1 / 12) + 1)
        else
          j61 (x1 - x1 / 12 * 12) ((x1 / 12) + (-1)))
abbrev rmX8_beyond : Room := { frames := 1, cells := 0, slots := 0, locals := 22 }
theorem kb_X8_beyond : g_CB yX8_beyond cX8_beyond 5 (some .int) 2 := ⟨kc_X8_beyond, kn_X8, by decide +kernel⟩
set_option maxRecDepth 100000 in
set_option maxHeartbeats 4000000 in
theorem c_X8_beyond (l : Launch) (D : va_G) (a : Nat → Nat) (cI : ClassId) (hj : g_Inj 65 a) (σ : gSt) (x1 x2 : Int32) : Met l yX8_beyond (Cond.code yX8_beyond cX8_beyond 5 (some .int) :: gW) rmX8_beyond (g_Pc 65 D a (gE a cI σ) [(cI, .int)] [.ref (a 1), .int x1, .int x2]) (g_Qi 65 D a (gE a cI σ) (f_X8_beyond σ x1 x2)) 0 0 (g_Own 65 a) := by
  generalize hh : f_X8_beyond σ x1 x2 = out
  refine g_meti (by decide) hj (Nat.le_of_ble_eq_true rfl) ?_
  intro p e s m args below meth c Q ls F hl hI hq
  have hx := F.1.1
  have hb := F.1.2.1
  have hl : lv_has ls 5 [(0, .ref (a 1)), (1, .int x1), (2, .int x2)] := hl
  have h := hh
  unfold f_X8_beyond at h
  refine lv_iload_n hx hb dX8_beyond_0 rfl (lv_at hl 1 rfl) ?_
  refine lv_bipush (v := 12) hx hb dX8_beyond_1 (by decide) ?_
  refine lv_irem hx hb dX8_beyond_3 (by decide) ?_
  refine lv_istore_n (lv' := [(3, .int (x1 - x1 / 12 * 12)), (0, .ref (a 1)), (1, .int x1), (2, .int x2)]) hx hb dX8_beyond_4 rfl hl (by decide) rfl (fun ls hl => ?_)
  refine lv_iload_n hx hb dX8_beyond_5 rfl (lv_at hl 2 rfl) ?_
  refine lv_bipush (v := 12) hx hb dX8_beyond_6 (by decide) ?_
  refine lv_idiv hx hb dX8_beyond_8 (by decide) ?_
  refine lv_istore (lv' := [(4, .int (x1 / 12)), (3, .int (x1 - x1 / 12 * 12)), (0, .ref (a 1)), (1, .int x1), (2, .int x2)]) hx hb dX8_beyond_9 hl (by decide) rfl (fun ls hl => ?_)
  refine lv_iload_n hx hb dX8_beyond_11 rfl (lv_at hl 4 rfl) ?_
  obtain ⟨j61, hj61, h⟩ := gJoin2_in h
  have J61 : ∀ (v3_61 : Int32) (v4_61 : Int32) (H : Heap) (locs : List Loc) (ls : Array Slot), j61 v3_61 v4_61 = out → g_S 65 D a (gE a cI σ) s.heap H locs → lv_has ls 5 [(0, .ref (a 1)), (3, .int v3_61), (4, .int v4_61)] → W p l e rmX8_beyond s m args below meth c H locs 0 0 Q (F0 m 61 ls []) := by
    intro v3_61 v4_61 H locs ls h hI hl
    rw [hj61] at h
    refine lv_aload_n hx hb dX8_beyond_61 rfl (lv_at hl 0 rfl) ?_
    refine lv_iload_n hx hb dX8_beyond_62 rfl (lv_at hl 1 rfl) ?_
    refine lv_iload hx hb dX8_beyond_63 (lv_at hl 2 rfl) ?_
    refine g_callVi (E' := gE a cI σ) (k0 := 1) (As := [.int v3_61, .int v4_61]) (rest := []) F hI (c_X8_has l D a cI F.2.2 σ v3_61 v4_61) kb_X8_has ki_X8_has ks_X8_has km_X8_50 ⟨Nat.le_of_ble_eq_true rfl, Nat.le_of_ble_eq_true rfl, rfl, rfl⟩ (by decide) gE_1 rfl hl.1 rfl (Nat.le_of_ble_eq_true rfl) ⟨Nat.zero_le _, Nat.zero_le _⟩ dX8_beyond_65 (fun H locs hI => ?_)
    refine lv_if_eq (tgt := 80) hx hb dX8_beyond_68 (by decide) (fun c_68 => ?_) (fun c_68 => ?_)
    · have h := (if_pos c_68).symm.trans h
      refine lv_iconst (v := -1) hx hb dX8_beyond_80 (by decide) ?_
      subst h
      exact hq _ _ _ _ hI dX8_beyond_81
    · have h := (if_neg c_68).symm.trans h
      refine lv_iload_n hx hb dX8_beyond_71 rfl (lv_at hl 1 rfl) ?_
      refine lv_iload hx hb dX8_beyond_72 (lv_at hl 2 rfl) ?_
      refine g_callSi (E' := gE a cI σ) (As := [.int v3_61, .int v4_61]) (rest := []) F hI (c_X8_number l D a cI F.2.2 σ v3_61 v4_61) kb_X8_number kt_X8_number km_X8_47 ⟨Nat.le_of_ble_eq_true rfl, Nat.le_of_ble_eq_true rfl, rfl, rfl⟩ hl.1 rfl (Nat.le_of_ble_eq_true rfl) ⟨Nat.zero_le _, Nat.zero_le _⟩ dX8_beyond_74 (fun H locs hI => ?_)
      refine lv_goto (tgt := 81) hx hb dX8_beyond_77 (by decide) ?_
      subst h
      exact hq _ _ _ _ hI dX8_beyond_81
  by_cases c_12_0 : x2 = 0
  · have h := (if_pos c_12_0).symm.trans h
    refine lv_tableIn (off := 28) (tgt := 40) hx hb dX8_beyond_12 (by rw [c_12_0]; decide) (by rw [c_12_0]; decide) (by rw [c_12_0]; rfl) (by decide) ?_
    refine lv_iinc (v := (x1 - x1 / 12 * 12) + 1) (lv' := [(3, .int ((x1 - x1 / 12 * 12) + 1)), (4, .int (x1 / 12)), (0, .ref (a 1)), (1, .int x1), (2, .int x2)]) hx hb dX8_beyond_40 hl (k := 1) rfl rfl (by decide) rfl (fun ls hl => ?_)
    refine lv_goto (tgt := 61) hx hb dX8_beyond_43 (by decide) ?_
    exact J61 _ _ _ _ _ h hI (lv_sub hl [2, 0, 1] rfl)
  · have h := (if_neg c_12_0).symm.trans h
    by_cases c_12_1 : x2 = 1
    · have h := (if_pos c_12_1).symm.trans h
      refine lv_tableIn (off := 34) (tgt := 46) hx hb dX8_beyond_12 (by rw [c_12_1]; decide) (by rw [c_12_1]; decide) (by rw [c_12_1]; rfl) (by decide) ?_
      refine lv_iinc (v := (x1 - x1 / 12 * 12) + (-1)) (lv' := [(3, .int ((x1 - x1 / 12 * 12) + (-1))), (4, .int (x1 / 12)), (0, .ref (a 1)), (1, .int x1), (2, .int x2)]) hx hb dX8_beyond_46 hl (k := 1) rfl rfl (by decide) rfl (fun ls hl => ?_)
      refine lv_goto (tgt := 61) hx hb dX8_beyond_49 (by decide) ?_
      exact J61 _ _ _ _ _ h hI (lv_sub hl [2, 0, 1] rfl)
    · have h := (if_neg c_12_1).symm.trans h
      by_cases c_12_2 : x2 = 2
      · have h := (if_pos c_12_2).symm.trans h
        refine lv_tableIn (off := 40) (tgt := 52) hx hb dX8_beyond_12 (by rw [c_12_2]; decide) (by rw [c_12_2]; decide) (by rw [c_12_2]; rfl) (by decide) ?_
        refine lv_iinc (v := (x1 / 12) + 1) (lv' := [(4, .int ((x1 / 12) + 1)), (3, .int (x1 - x1 / 12 * 12)), (0, .ref (a 1)), (1, .int x1), (2, .int x2)]) hx hb dX8_beyond_52 hl (k := 0) rfl rfl (by decide) rfl (fun ls hl => ?_)
        refine lv_goto (tgt := 61) hx hb dX8_beyond_55 (by decide) ?_
        exact J61 _ _ _ _ _ h hI (lv_sub hl [2, 1, 0] rfl)
      · have h := (if_neg c_12_2).symm.trans h
        refine lv_tableOut (tgt := 58) hx hb dX8_beyond_12 (by have q0 : ¬ (x2).toInt = 0 := lv_neT c_12_0 rfl; have q1 : ¬ (x2).toInt = 1 := lv_neT c_12_1 rfl; have q2 : ¬ (x2).toInt = 2 := lv_neT c_12_2 rfl; omega) (by decide) ?_
        refine lv_iinc (v := (x1 / 12) + (-1)) (lv' := [(4, .int ((x1 / 12) + (-1))), (3, .int (x1 - x1 / 12 * 12)), (0, .ref (a 1)), (1, .int x1), (2, .int x2)]) hx hb dX8_beyond_58 hl (k := 0) rfl rfl (by decide) rfl (fun ls hl => ?_)
        exact J61 _ _ _ _ _ h hI (lv_sub hl [2, 1, 0] rfl)
/-- Spurline$Terrain.climbBetween(II)I -/
def f_X8_climbBetween (σ : gSt) (x1 x2 : Int32) : Int32 :=
  jmax 0 ((gget σ 0 x2) - (gget σ 0 x1))
abbrev rmX8_climbBetween : Room := { frames := 1, cells := 0, slots := 0, locals := 21 }
theorem kb_X8_climbBetween : g_CB yX8_climbBetween cX8_climbBetween 3 (some .int) 2 := ⟨kc_X8_climbBetween, kn_X8, by decide +kernel⟩
set_option maxRecDepth 100000 in
set_option maxHeartbeats 4000000 in
theorem c_X8_climbBetween (l : Launch) (D : va_G) (a : Nat → Nat) (cI : ClassId) (hj : g_Inj 65 a) (σ : gSt) (x1 x2 : Int32) : Met l yX8_climbBetween (Cond.code yX8_climbBetween cX8_climbBetween 3 (some .int) :: gW) rmX8_climbBetween (g_Pc 65 D a (gE a cI σ) [(cI, .int)] [.ref (a 1), .int x1, .int x2]) (g_Qi 65 D a (gE a cI σ) (f_X8_climbBetween σ x1 x2)) 0 0 (g_Own 65 a) := by
  generalize hh : f_X8_climbBetween σ x1 x2 = out
  refine g_meti (by decide) hj (Nat.le_of_ble_eq_true rfl) ?_
  intro p e s m args below meth c Q ls F hl hI hq
  have hx := F.1.1
  have hb := F.1.2.1
  have hl : lv_has ls 3 [(0, .ref (a 1)), (1, .int x1), (2, .int x2)] := hl
  have h := hh
  unfold f_X8_climbBetween at h
  refine lv_iconst (v := 0) hx hb dX8_climbBetween_0 (by decide) ?_
  refine lv_aload_n hx hb dX8_climbBetween_1 rfl (lv_at hl 0 rfl) ?_
  refine g_get F hI (by decide) gE_1 rfl ku_X8 2 (by decide) kf_X8_14 rfl dX8_climbBetween_2 ?_
  refine lv_iload_n hx hb dX8_climbBetween_5 rfl (lv_at hl 2 rfl) ?_
  refine g_rget F hI 0 (by decide) km_X8_30 ⟨Nat.le_of_ble_eq_true rfl, Nat.le_of_ble_eq_true rfl⟩ hl.1 (Nat.le_of_ble_eq_true rfl) ⟨Nat.zero_le _, Nat.zero_le _⟩ dX8_climbBetween_6 (fun H locs hI => ?_)
  refine lv_aload_n hx hb dX8_climbBetween_9 rfl (lv_at hl 0 rfl) ?_
  refine g_get F hI (by decide) gE_1 rfl ku_X8 2 (by decide) kf_X8_14 rfl dX8_climbBetween_10 ?_
  refine lv_iload_n hx hb dX8_climbBetween_13 rfl (lv_at hl 1 rfl) ?_
  refine g_rget F hI 0 (by decide) km_X8_30 ⟨Nat.le_of_ble_eq_true rfl, Nat.le_of_ble_eq_true rfl⟩ hl.1 (Nat.le_of_ble_eq_true rfl) ⟨Nat.zero_le _, Nat.zero_le _⟩ dX8_climbBetween_14 (fun H locs hI => ?_)
  refine lv_isub hx hb dX8_climbBetween_17 ?_
  refine g_mmax F hl.1 km_X8_43 ⟨Nat.le_of_ble_eq_true rfl, Nat.le_of_ble_eq_true rfl⟩ ⟨Nat.zero_le _, Nat.zero_le _⟩ dX8_climbBetween_18 ?_
  subst h
  exact hq _ _ _ _ hI dX8_climbBetween_21
/-- Spurline$Terrain.paceCost(I)I -/
def f_X8_paceCost (σ : gSt) (x1 : Int32) : Int32 :=
  if gget σ 1 x1 = 1 then
    12
  else
    if gget σ 1 x1 = 2 then
      20
    else
      if gget σ 1 x1 = 3 then
        40
      else
        10
abbrev rmX8_paceCost : Room := { frames := 1, cells := 0, slots := 0, locals := 21 }
theorem kb_X8_paceCost : g_CB yX8_paceCost cX8_paceCost 2 (some .int) 1 := ⟨kc_X8_paceCost, kn_X8, by decide +kernel⟩
set_option maxRecDepth 100000 in
set_option maxHeartbeats 4000000 in
theorem c_X8_paceCost (l : Launch) (D : va_G) (a : Nat → Nat) (cI : ClassId) (hj : g_Inj 65 a) (σ : gSt) (x1 : Int32) : Met l yX8_paceCost (Cond.code yX8_paceCost cX8_paceCost 2 (some .int) :: gW) rmX8_paceCost (g_Pc 65 D a (gE a cI σ) [(cI, .int)] [.ref (a 1), .int x1]) (g_Qi 65 D a (gE a cI σ) (f_X8_paceCost σ x1)) 0 0 (g_Own 65 a) := by
  generalize hh : f_X8_paceCost σ x1 = out
  refine g_meti (by decide) hj (Nat.le_of_ble_eq_true rfl) ?_
  intro p e s m args below meth c Q ls F hl hI hq
  have hx := F.1.1
  have hb := F.1.2.1
  have hl : lv_has ls 2 [(0, .ref (a 1)), (1, .int x1)] := hl
  have h := hh
  unfold f_X8_paceCost at h
  refine lv_aload_n hx hb dX8_paceCost_0 rfl (lv_at hl 0 rfl) ?_
  refine g_get F hI (by decide) gE_1 rfl ku_X8 3 (by decide) kf_X8_20 rfl dX8_paceCost_1 ?_
  refine lv_iload_n hx hb dX8_paceCost_4 rfl (lv_at hl 1 rfl) ?_
  refine g_rget F hI 1 (by decide) km_X8_30 ⟨Nat.le_of_ble_eq_true rfl, Nat.le_of_ble_eq_true rfl⟩ hl.1 (Nat.le_of_ble_eq_true rfl) ⟨Nat.zero_le _, Nat.zero_le _⟩ dX8_paceCost_5 (fun H locs hI => ?_)
  by_cases c_8_0 : gget σ 1 x1 = 1
  · have h := (if_pos c_8_0).symm.trans h
    refine lv_tableIn (off := 28) (tgt := 36) hx hb dX8_paceCost_8 (by rw [c_8_0]; decide) (by rw [c_8_0]; decide) (by rw [c_8_0]; rfl) (by decide) ?_
    refine lv_bipush (v := 12) hx hb dX8_paceCost_36 (by decide) ?_
    subst h
    exact hq _ _ _ _ hI dX8_paceCost_38
  · have h := (if_neg c_8_0).symm.trans h
    by_cases c_8_1 : gget σ 1 x1 = 2
    · have h := (if_pos c_8_1).symm.trans h
      refine lv_tableIn (off := 31) (tgt := 39) hx hb dX8_paceCost_8 (by rw [c_8_1]; decide) (by rw [c_8_1]; decide) (by rw [c_8_1]; rfl) (by decide) ?_
      refine lv_bipush (v := 20) hx hb dX8_paceCost_39 (by decide) ?_
      subst h
      exact hq _ _ _ _ hI dX8_paceCost_41
    · have h := (if_neg c_8_1).symm.trans h
      by_cases c_8_2 : gget σ 1 x1 = 3
      · have h := (if_pos c_8_2).symm.trans h
        refine lv_tableIn (off := 34) (tgt := 42) hx hb dX8_paceCost_8 (by rw [c_8_2]; decide) (by rw [c_8_2]; decide) (by rw [c_8_2]; rfl) (by decide) ?_
        refine lv_bipush (v := 40) hx hb dX8_paceCost_42 (by decide) ?_
        subst h
        exact hq _ _ _ _ hI dX8_paceCost_44
      · have h := (if_neg c_8_2).symm.trans h
        refine lv_tableOut (tgt := 45) hx hb dX8_paceCost_8 (by have q0 : ¬ (gget σ 1 x1).toInt = 1 := lv_neT c_8_0 rfl; have q1 : ¬ (gget σ 1 x1).toInt = 2 := lv_neT c_8_1 rfl; have q2 : ¬ (gget σ 1 x1).toInt = 3 := lv_neT c_8_2 rfl; omega) (by decide) ?_
        refine lv_bipush (v := 10) hx hb dX8_paceCost_45 (by decide) ?_
        subst h
        exact hq _ _ _ _ hI dX8_paceCost_47
