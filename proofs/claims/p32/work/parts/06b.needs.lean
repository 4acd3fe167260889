/-! the four methods that throw by themselves -/
theorem tg_IO : ∀ w ∈ (vx_atS RX9 260 "java/lang/IndexOutOfBoundsException" ["java/lang/RuntimeException", "java/lang/Exception"]).filter goodWord, w ∈ gW := fun w h => List.mem_filter.mpr ⟨List.mem_append_right _ ((by decide +kernel : ∀ w ∈ (vx_atS RX9 260 "java/lang/IndexOutOfBoundsException" ["java/lang/RuntimeException", "java/lang/Exception"]).filter goodWord, w ∈ tables_1) w h), (List.mem_filter.mp h).2⟩
theorem tb_IO : ∀ w ∈ (vx_atS RX9 260 "java/lang/IndexOutOfBoundsException" ["java/lang/RuntimeException", "java/lang/Exception"]).filter (fun w => !goodWord w), w ∈ Cond.castable "java/lang/IndexOutOfBoundsException" "java/lang/IndexOutOfBoundsException" :: gDecl := by decide +kernel
theorem to_IO : ∀ w ∈ Cond.classLink RX9 256 "java/lang/IndexOutOfBoundsException" :: Cond.initialized "java/lang/IndexOutOfBoundsException" :: vx_atS RX9 260 "java/lang/IndexOutOfBoundsException" ["java/lang/RuntimeException", "java/lang/Exception"], vx_ot w = true := by decide +kernel
theorem tg_IA : ∀ w ∈ (vx_atS RX9 275 "java/lang/IllegalArgumentException" ["java/lang/RuntimeException", "java/lang/Exception"]).filter goodWord, w ∈ gW := fun w h => List.mem_filter.mpr ⟨List.mem_append_right _ ((by decide +kernel : ∀ w ∈ (vx_atS RX9 275 "java/lang/IllegalArgumentException" ["java/lang/RuntimeException", "java/lang/Exception"]).filter goodWord, w ∈ tables_1) w h), (List.mem_filter.mp h).2⟩
theorem tb_IA : ∀ w ∈ (vx_atS RX9 275 "java/lang/IllegalArgumentException" ["java/lang/RuntimeException", "java/lang/Exception"]).filter (fun w => !goodWord w), w ∈ Cond.castable "java/lang/IllegalArgumentException" "java/lang/IllegalArgumentException" :: gDecl := by decide +kernel
theorem to_IA : ∀ w ∈ Cond.classLink RX9 271 "java/lang/IllegalArgumentException" :: Cond.initialized "java/lang/IllegalArgumentException" :: vx_atS RX9 275 "java/lang/IllegalArgumentException" ["java/lang/RuntimeException", "java/lang/Exception"], vx_ot w = true := by decide +kernel
theorem tg_IS : ∀ w ∈ (vx_atS RX9 280 "java/lang/IllegalStateException" ["java/lang/RuntimeException", "java/lang/Exception"]).filter goodWord, w ∈ gW := fun w h => List.mem_filter.mpr ⟨List.mem_append_right _ ((by decide +kernel : ∀ w ∈ (vx_atS RX9 280 "java/lang/IllegalStateException" ["java/lang/RuntimeException", "java/lang/Exception"]).filter goodWord, w ∈ tables_1) w h), (List.mem_filter.mp h).2⟩
theorem tb_IS : ∀ w ∈ (vx_atS RX9 280 "java/lang/IllegalStateException" ["java/lang/RuntimeException", "java/lang/Exception"]).filter (fun w => !goodWord w), w ∈ Cond.castable "java/lang/IllegalStateException" "java/lang/IllegalStateException" :: gDecl := by decide +kernel
theorem to_IS : ∀ w ∈ Cond.classLink RX9 276 "java/lang/IllegalStateException" :: Cond.initialized "java/lang/IllegalStateException" :: vx_atS RX9 280 "java/lang/IllegalStateException" ["java/lang/RuntimeException", "java/lang/Exception"], vx_ot w = true := by decide +kernel
def f_X9_needCell (σ : gSt) (x1 x2 : Int32) : Nat := if f_X8_has σ x1 x2 = 0 then 1 else 0
def f_X9_needIndex (x0 x1 : Int32) : Nat := if x0 < 0 then 1 else if x0 < x1 then 0 else 1
def f_X9_needRange (x0 x1 x2 : Int32) : Nat := if x0 < x1 then 2 else if x0 ≤ x2 then 0 else 2
def f_X9_needState (x0 : Int32) : Nat := if x0 = 0 then 3 else 0
abbrev rmX9_needCell : Room := { frames := 6, cells := 1, slots := 6, locals := 82 }
theorem kb_X9_needCell : g_CB yX9_needCell cX9_needCell 3 none 2 := ⟨kc_X9_needCell, kn_X9, by decide +kernel⟩
set_option maxRecDepth 100000 in
theorem c_X9_needCell (l : Launch) (D : va_G) (a : Nat → Nat) (cI : ClassId) (hj : g_Inj 65 a) (hlt : l.stackTraces = false) (sa : Nat → Nat) (σ : gSt) (x1 x2 : Int32) : vx_Met l yX9_needCell (Cond.code yX9_needCell cX9_needCell 3 none :: gW) rmX9_needCell (g_PcX 65 D a (gE a cI σ) [(cI, .int)] sa [.ref (a 0), .int x1, .int x2]) (g_QXv 65 D a (gE a cI σ) (f_X9_needCell σ x1 x2)) (g_XC 65 D a (gE a cI σ) (f_X9_needCell σ x1 x2)) 1 6 (g_Own 65 a) := by
  generalize hh : f_X9_needCell σ x1 x2 = out
  refine g_mxv (by decide) hj hlt rfl (Nat.le_of_ble_eq_true rfl) ?_
  intro p e s m args below meth c Q ls F X hl hI hq hqx htr
  have hx := F.1.1
  have hb := F.1.2.1
  have hl : lv_has ls 3 [(0, .ref (a 0)), (1, .int x1), (2, .int x2)] := hl
  have h := hh
  unfold f_X9_needCell at h
  refine lv_aload_n hx hb dX9_needCell_0 rfl (lv_at hl 0 rfl) ?_
  refine g_get F hI (by decide) gE_0 rfl ku_X9 0 (by decide) kf_X9_18 rfl dX9_needCell_1 ?_
  refine lv_iload_n hx hb dX9_needCell_4 rfl (lv_at hl 1 rfl) ?_
  refine lv_iload_n hx hb dX9_needCell_5 rfl (lv_at hl 2 rfl) ?_
  refine g_callVi (E' := gE a cI σ) (k0 := 1) (As := [.int x1, .int x2]) (rest := []) F hI (c_X8_has l D a cI F.2.2 σ x1 x2) kb_X8_has ki_X8_has ks_X8_has km_X9_253 ⟨Nat.le_of_ble_eq_true rfl, Nat.le_of_ble_eq_true rfl, rfl, rfl⟩ (by decide) gE_1 rfl hl.1 rfl (Nat.le_of_ble_eq_true rfl) ⟨Nat.zero_le _, Nat.zero_le _⟩ dX9_needCell_6 (fun H locs hI => ?_)
  refine lv_if_ne (tgt := 23) hx hb dX9_needCell_9 (by decide) (fun c1 => ?_) (fun c1 => ?_)
  · have h := (if_neg c1).symm.trans h
    subst h
    exact hq _ _ _ _ 0 0 rfl (Nat.zero_le _) (Nat.zero_le _) hI dX9_needCell_23
  · have h := (if_pos c1).symm.trans h
    subst h
    exact htr _ _ _ _ 256 258 260 0 "there is no such cell" (by decide) hI hl.1 X.1.1 kl_X9_256 kn_IO (by decide +kernel) X.1.2.2.2.2.1 tg_IO tb_IO to_IO dX9_needCell_12 dX9_needCell_15 dX9_needCell_16 dX9_needCell_19 dX9_needCell_22 (Nat.le_of_ble_eq_true rfl) (Nat.le_of_ble_eq_true rfl) (Nat.le_of_ble_eq_true rfl) (Nat.le_of_ble_eq_true rfl) (Nat.le_refl _) (Nat.le_refl _)
abbrev rmX9_needIndex : Room := { frames := 6, cells := 1, slots := 6, locals := 82 }
theorem kb_X9_needIndex : g_CB yX9_needIndex cX9_needIndex 2 none 2 := ⟨kc_X9_needIndex, kn_X9, by decide +kernel⟩
set_option maxRecDepth 100000 in
theorem c_X9_needIndex (l : Launch) (D : va_G) (a : Nat → Nat) (cI : ClassId) (hj : g_Inj 65 a) (hlt : l.stackTraces = false) (sa : Nat → Nat) (σ : gSt) (x0 x1 : Int32) : vx_Met l yX9_needIndex (Cond.code yX9_needIndex cX9_needIndex 2 none :: gW) rmX9_needIndex (g_PcX 65 D a (gE a cI σ) [(cI, .int)] sa [.int x0, .int x1]) (g_QXv 65 D a (gE a cI σ) (f_X9_needIndex x0 x1)) (g_XC 65 D a (gE a cI σ) (f_X9_needIndex x0 x1)) 1 6 (g_Own 65 a) := by
  generalize hh : f_X9_needIndex x0 x1 = out
  refine g_mxv (by decide) hj hlt rfl (Nat.le_of_ble_eq_true rfl) ?_
  intro p e s m args below meth c Q ls F X hl hI hq hqx htr
  have hx := F.1.1
  have hb := F.1.2.1
  have hl : lv_has ls 2 [(0, .int x0), (1, .int x1)] := hl
  have h := hh
  unfold f_X9_needIndex at h
  refine lv_iload_n hx hb dX9_needIndex_0 rfl (lv_at hl 0 rfl) ?_
  refine lv_if_lt (tgt := 9) hx hb dX9_needIndex_1 (by decide) (fun c1 => ?_) (fun c1 => ?_)
  · have h := (if_pos c1).symm.trans h
    subst h
    exact htr _ _ _ _ 256 269 260 1 "there is no such number" (by decide) hI hl.1 X.1.2.1 kl_X9_256 kn_IO (by decide +kernel) X.1.2.2.2.2.1 tg_IO tb_IO to_IO dX9_needIndex_9 dX9_needIndex_12 dX9_needIndex_13 dX9_needIndex_16 dX9_needIndex_19 (Nat.le_of_ble_eq_true rfl) (Nat.le_of_ble_eq_true rfl) (Nat.le_of_ble_eq_true rfl) (Nat.le_of_ble_eq_true rfl) (Nat.le_refl _) (Nat.le_refl _)
  · have h := (if_neg c1).symm.trans h
    refine lv_iload_n hx hb dX9_needIndex_4 rfl (lv_at hl 0 rfl) ?_
    refine lv_iload_n hx hb dX9_needIndex_5 rfl (lv_at hl 1 rfl) ?_
    refine lv_icmp_lt (tgt := 20) hx hb dX9_needIndex_6 (by decide) (fun c2 => ?_) (fun c2 => ?_)
    · have h := (if_pos c2).symm.trans h
      subst h
      exact hq _ _ _ _ 0 0 rfl (Nat.zero_le _) (Nat.zero_le _) hI dX9_needIndex_20
    · have h := (if_neg c2).symm.trans h
      subst h
      exact htr _ _ _ _ 256 269 260 1 "there is no such number" (by decide) hI hl.1 X.1.2.1 kl_X9_256 kn_IO (by decide +kernel) X.1.2.2.2.2.1 tg_IO tb_IO to_IO dX9_needIndex_9 dX9_needIndex_12 dX9_needIndex_13 dX9_needIndex_16 dX9_needIndex_19 (Nat.le_of_ble_eq_true rfl) (Nat.le_of_ble_eq_true rfl) (Nat.le_of_ble_eq_true rfl) (Nat.le_of_ble_eq_true rfl) (Nat.le_refl _) (Nat.le_refl _)
abbrev rmX9_needRange : Room := { frames := 6, cells := 1, slots := 6, locals := 82 }
theorem kb_X9_needRange : g_CB yX9_needRange cX9_needRange 3 none 3 := ⟨kc_X9_needRange, kn_X9, by decide +kernel⟩
set_option maxRecDepth 100000 in
theorem c_X9_needRange (l : Launch) (D : va_G) (a : Nat → Nat) (cI : ClassId) (hj : g_Inj 65 a) (hlt : l.stackTraces = false) (sa : Nat → Nat) (σ : gSt) (x0 x1 x2 : Int32) : vx_Met l yX9_needRange (Cond.code yX9_needRange cX9_needRange 3 none :: gW) rmX9_needRange (g_PcX 65 D a (gE a cI σ) [(cI, .int)] sa [.int x0, .int x1, .int x2]) (g_QXv 65 D a (gE a cI σ) (f_X9_needRange x0 x1 x2)) (g_XC 65 D a (gE a cI σ) (f_X9_needRange x0 x1 x2)) 1 6 (g_Own 65 a) := by
  generalize hh : f_X9_needRange x0 x1 x2 = out
  refine g_mxv (by decide) hj hlt rfl (Nat.le_of_ble_eq_true rfl) ?_
  intro p e s m args below meth c Q ls F X hl hI hq hqx htr
  have hx := F.1.1
  have hb := F.1.2.1
  have hl : lv_has ls 3 [(0, .int x0), (1, .int x1), (2, .int x2)] := hl
  have h := hh
  unfold f_X9_needRange at h
  refine lv_iload_n hx hb dX9_needRange_0 rfl (lv_at hl 0 rfl) ?_
  refine lv_iload_n hx hb dX9_needRange_1 rfl (lv_at hl 1 rfl) ?_
  refine lv_icmp_lt (tgt := 10) hx hb dX9_needRange_2 (by decide) (fun c1 => ?_) (fun c1 => ?_)
  · have h := (if_pos c1).symm.trans h
    subst h
    exact htr _ _ _ _ 271 273 275 2 "a value is out of range" (by decide) hI hl.1 X.1.2.2.1 kl_X9_271 kn_IA (by decide +kernel) X.1.2.2.2.2.2.1 tg_IA tb_IA to_IA dX9_needRange_10 dX9_needRange_13 dX9_needRange_14 dX9_needRange_17 dX9_needRange_20 (Nat.le_of_ble_eq_true rfl) (Nat.le_of_ble_eq_true rfl) (Nat.le_of_ble_eq_true rfl) (Nat.le_of_ble_eq_true rfl) (Nat.le_refl _) (Nat.le_refl _)
  · have h := (if_neg c1).symm.trans h
    refine lv_iload_n hx hb dX9_needRange_5 rfl (lv_at hl 0 rfl) ?_
    refine lv_iload_n hx hb dX9_needRange_6 rfl (lv_at hl 2 rfl) ?_
    refine lv_icmp_le (tgt := 21) hx hb dX9_needRange_7 (by decide) (fun c2 => ?_) (fun c2 => ?_)
    · have h := (if_pos c2).symm.trans h
      subst h
      exact hq _ _ _ _ 0 0 rfl (Nat.zero_le _) (Nat.zero_le _) hI dX9_needRange_21
    · have h := (if_neg c2).symm.trans h
      subst h
      exact htr _ _ _ _ 271 273 275 2 "a value is out of range" (by decide) hI hl.1 X.1.2.2.1 kl_X9_271 kn_IA (by decide +kernel) X.1.2.2.2.2.2.1 tg_IA tb_IA to_IA dX9_needRange_10 dX9_needRange_13 dX9_needRange_14 dX9_needRange_17 dX9_needRange_20 (Nat.le_of_ble_eq_true rfl) (Nat.le_of_ble_eq_true rfl) (Nat.le_of_ble_eq_true rfl) (Nat.le_of_ble_eq_true rfl) (Nat.le_refl _) (Nat.le_refl _)
abbrev rmX9_needState : Room := { frames := 6, cells := 1, slots := 6, locals := 82 }
theorem kb_X9_needState : g_CB yX9_needState cX9_needState 1 none 1 := ⟨kc_X9_needState, kn_X9, by decide +kernel⟩
set_option maxRecDepth 100000 in
theorem c_X9_needState (l : Launch) (D : va_G) (a : Nat → Nat) (cI : ClassId) (hj : g_Inj 65 a) (hlt : l.stackTraces = false) (sa : Nat → Nat) (σ : gSt) (x0 : Int32) : vx_Met l yX9_needState (Cond.code yX9_needState cX9_needState 1 none :: gW) rmX9_needState (g_PcX 65 D a (gE a cI σ) [(cI, .int)] sa [.int x0]) (g_QXv 65 D a (gE a cI σ) (f_X9_needState x0)) (g_XC 65 D a (gE a cI σ) (f_X9_needState x0)) 1 6 (g_Own 65 a) := by
  generalize hh : f_X9_needState x0 = out
  refine g_mxv (by decide) hj hlt rfl (Nat.le_of_ble_eq_true rfl) ?_
  intro p e s m args below meth c Q ls F X hl hI hq hqx htr
  have hx := F.1.1
  have hb := F.1.2.1
  have hl : lv_has ls 1 [(0, .int x0)] := hl
  have h := hh
  unfold f_X9_needState at h
  refine lv_iload_n hx hb dX9_needState_0 rfl (lv_at hl 0 rfl) ?_
  refine lv_if_ne (tgt := 15) hx hb dX9_needState_1 (by decide) (fun c1 => ?_) (fun c1 => ?_)
  · have h := (if_neg c1).symm.trans h
    subst h
    exact hq _ _ _ _ 0 0 rfl (Nat.zero_le _) (Nat.zero_le _) hI dX9_needState_15
  · have h := (if_pos c1).symm.trans h
    subst h
    exact htr _ _ _ _ 276 278 280 3 "what was told before rules this call out" (by decide) hI hl.1 X.1.2.2.2.1 kl_X9_276 kn_IS (by decide +kernel) X.1.2.2.2.2.2.2.1 tg_IS tb_IS to_IS dX9_needState_4 dX9_needState_7 dX9_needState_8 dX9_needState_11 dX9_needState_14 (Nat.le_of_ble_eq_true rfl) (Nat.le_of_ble_eq_true rfl) (Nat.le_of_ble_eq_true rfl) (Nat.le_of_ble_eq_true rfl) (Nat.le_refl _) (Nat.le_refl _)
