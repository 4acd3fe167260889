/-- SpurlineModel.thrown()I -/
def f_X10_thrown (σ : gSt) : Int32 :=
  σ.2 6
abbrev rmX10_thrown : Room := { frames := 0, cells := 0, slots := 0, locals := 0 }
theorem kb_X10_thrown : g_CB yX10_thrown cX10_thrown 1 (some .int) 0 := ⟨kc_X10_thrown, kn_X10, by decide +kernel⟩
set_option maxRecDepth 100000 in
set_option maxHeartbeats 4000000 in
theorem c_X10_thrown (l : Launch) (D : va_G) (a : Nat → Nat) (cI cZ : ClassId) (hj : g_Inj 21 a) (σ : gSt) : Met l yX10_thrown (Cond.code yX10_thrown cX10_thrown 1 (some .int) :: gW) rmX10_thrown (g_Pc 21 D a (mE a cI cZ σ) [(cI, .int), (cZ, .boolean)] [.ref (a 0)]) (g_Qi 21 D a (mE a cI cZ σ) (f_X10_thrown σ)) 0 0 (g_Own 21 a) := by
  generalize hh : f_X10_thrown σ = out
  refine g_meti (by decide) hj (Nat.le_of_ble_eq_true rfl) ?_
  intro p e s m args below meth c Q ls F hl hI hq
  have hx := F.1.1
  have hb := F.1.2.1
  have hl : lv_has ls 1 [(0, .ref (a 0))] := hl
  have h := hh
  unfold f_X10_thrown at h
  refine lv_aload_n hx hb dX10_thrown_0 rfl (lv_at hl 0 rfl) ?_
  refine g_get F hI (by decide) mE_0 rfl ku_X10 26 (by decide) kf_X10_78 rfl dX10_thrown_1 ?_
  subst h
  exact hq _ _ _ _ hI dX10_thrown_4
/-- SpurlineModel.in(III)Z -/
def f_X10_in (x0 x1 x2 : Int32) : Int32 :=
  if x0 < x1 then
    0
  else
    if x2 < x0 then
      0
    else
      1
abbrev rmX10_in : Room := { frames := 0, cells := 0, slots := 0, locals := 0 }
theorem kb_X10_in : g_CB yX10_in cX10_in 3 (some .boolean) 3 := ⟨kc_X10_in, kn_X10, by decide +kernel⟩
set_option maxRecDepth 100000 in
set_option maxHeartbeats 4000000 in
theorem c_X10_in (l : Launch) (D : va_G) (a : Nat → Nat) (cI cZ : ClassId) (hj : g_Inj 21 a) (σ : gSt) (x0 x1 x2 : Int32) : Met l yX10_in (Cond.code yX10_in cX10_in 3 (some .boolean) :: gW) rmX10_in (g_Pc 21 D a (mE a cI cZ σ) [(cI, .int), (cZ, .boolean)] [.int x0, .int x1, .int x2]) (g_Qi 21 D a (mE a cI cZ σ) (f_X10_in x0 x1 x2)) 0 0 (g_Own 21 a) := by
  generalize hh : f_X10_in x0 x1 x2 = out
  refine g_metz (by decide) hj (Nat.le_of_ble_eq_true rfl) ?_
  intro p e s m args below meth c Q ls F hl hI hq
  have hx := F.1.1
  have hb := F.1.2.1
  have hl : lv_has ls 3 [(0, .int x0), (1, .int x1), (2, .int x2)] := hl
  have h := hh
  unfold f_X10_in at h
  refine lv_iload_n hx hb dX10_in_0 rfl (lv_at hl 0 rfl) ?_
  refine lv_iload_n hx hb dX10_in_1 rfl (lv_at hl 1 rfl) ?_
  refine lv_icmp_lt (tgt := 14) hx hb dX10_in_2 (by decide) (fun c_2 => ?_) (fun c_2 => ?_)
  · have h := (if_pos c_2).symm.trans h
    refine lv_iconst (v := 0) hx hb dX10_in_14 (by decide) ?_
    subst h
    exact hq _ _ _ _ _ (show (0 : Int32) &&& 1 = 0 from by decide) hI dX10_in_15
  · have h := (if_neg c_2).symm.trans h
    refine lv_iload_n hx hb dX10_in_5 rfl (lv_at hl 0 rfl) ?_
    refine lv_iload_n hx hb dX10_in_6 rfl (lv_at hl 2 rfl) ?_
    refine lv_icmp_gt (tgt := 14) hx hb dX10_in_7 (by decide) (fun c_7 => ?_) (fun c_7 => ?_)
    · have h := (if_pos c_7).symm.trans h
      refine lv_iconst (v := 0) hx hb dX10_in_14 (by decide) ?_
      subst h
      exact hq _ _ _ _ _ (show (0 : Int32) &&& 1 = 0 from by decide) hI dX10_in_15
    · have h := (if_neg c_7).symm.trans h
      refine lv_iconst (v := 1) hx hb dX10_in_10 (by decide) ?_
      refine lv_goto (tgt := 15) hx hb dX10_in_11 (by decide) ?_
      subst h
      exact hq _ _ _ _ _ (show (1 : Int32) &&& 1 = 1 from by decide) hI dX10_in_15
/-- SpurlineModel.asked(Z)Z -/
def f_X10_asked (σ : gSt) (x1 : Int32) : Int32 × gSt :=
  gJoin1 (fun (w0_10 : Int32) =>
      (x1 &&& 1, g_sf σ 6 w0_10)) (fun j10 =>
    if x1 = 0 then
      j10 1
    else
      j10 0)
abbrev rmX10_asked : Room := { frames := 0, cells := 0, slots := 0, locals := 0 }
theorem kb_X10_asked : g_CB yX10_asked cX10_asked 2 (some .boolean) 1 := ⟨kc_X10_asked, kn_X10, by decide +kernel⟩
set_option maxRecDepth 100000 in
set_option maxHeartbeats 4000000 in
theorem c_X10_asked (l : Launch) (D : va_G) (a : Nat → Nat) (cI cZ : ClassId) (hj : g_Inj 21 a) (σ : gSt) (x1 : Int32) : Met l yX10_asked (Cond.code yX10_asked cX10_asked 2 (some .boolean) :: gW) rmX10_asked (g_Pc 21 D a (mE a cI cZ σ) [(cI, .int), (cZ, .boolean)] [.ref (a 0), .int x1]) (g_Qi 21 D a (mE a cI cZ (f_X10_asked σ x1).2) (f_X10_asked σ x1).1) 0 0 (g_Own 21 a) := by
  generalize hh : f_X10_asked σ x1 = out
  refine g_metz (by decide) hj (Nat.le_of_ble_eq_true rfl) ?_
  intro p e s m args below meth c Q ls F hl hI hq
  have hx := F.1.1
  have hb := F.1.2.1
  have hl : lv_has ls 2 [(0, .ref (a 0)), (1, .int x1)] := hl
  have h := hh
  unfold f_X10_asked at h
  refine lv_aload_n hx hb dX10_asked_0 rfl (lv_at hl 0 rfl) ?_
  refine lv_iload_n hx hb dX10_asked_1 rfl (lv_at hl 1 rfl) ?_
  obtain ⟨j10, hj10, h⟩ := gJoin1_in h
  have J10 : ∀ (w0_10 : Int32) (H : Heap) (locs : List Loc) (ls : Array Slot), j10 w0_10 = out → g_S 21 D a (mE a cI cZ σ) s.heap H locs → lv_has ls 2 [(1, .int x1)] → W p l e rmX10_asked s m args below meth c H locs 0 0 Q (F0 m 10 ls [.int w0_10, .ref (a 0)]) := by
    intro w0_10 H locs ls h hI hl
    rw [hj10] at h
    refine g_put (E' := mE a cI cZ (g_sf σ 6 w0_10)) F hI (by decide) mE_0 rfl ku_X10 tyX10_ok nmX10 26 (by decide) kf_X10_78 rfl rfl rfl rfl (Nat.le_of_ble_eq_true rfl) rfl mE_sf dX10_asked_10 (fun H locs hI => ?_)
    refine lv_iload_n hx hb dX10_asked_13 rfl (lv_at hl 0 rfl) ?_
    subst h
    exact hq _ _ _ _ _ rfl hI dX10_asked_14
  refine lv_if_eq (tgt := 9) hx hb dX10_asked_2 (by decide) (fun c_2 => ?_) (fun c_2 => ?_)
  · have h := (if_pos c_2).symm.trans h
    refine lv_iconst (v := 1) hx hb dX10_asked_9 (by decide) ?_
    exact J10 _ _ _ _ h hI (lv_sub hl [1] rfl)
  · have h := (if_neg c_2).symm.trans h
    refine lv_iconst (v := 0) hx hb dX10_asked_5 (by decide) ?_
    refine lv_goto (tgt := 10) hx hb dX10_asked_6 (by decide) ?_
    exact J10 _ _ _ _ h hI (lv_sub hl [1] rfl)
/-- SpurlineModel.asked(ZZ)Z -/
def f_X10_asked_ (σ : gSt) (x1 x2 : Int32) : Int32 × gSt :=
  gJoin1 (fun (w0_18 : Int32) =>
      if (g_sf σ 6 w0_18).2 6 = 0 then
        (1, g_sf σ 6 w0_18)
      else
        (0, g_sf σ 6 w0_18)) (fun j18 =>
    if x1 = 0 then
      j18 1
    else
      if x2 = 0 then
        j18 2
      else
        j18 0)
abbrev rmX10_asked_ : Room := { frames := 0, cells := 0, slots := 0, locals := 0 }
theorem kb_X10_asked_ : g_CB yX10_asked_ cX10_asked_ 3 (some .boolean) 2 := ⟨kc_X10_asked_, kn_X10, by decide +kernel⟩
set_option maxRecDepth 100000 in
set_option maxHeartbeats 4000000 in
theorem c_X10_asked_ (l : Launch) (D : va_G) (a : Nat → Nat) (cI cZ : ClassId) (hj : g_Inj 21 a) (σ : gSt) (x1 x2 : Int32) : Met l yX10_asked_ (Cond.code yX10_asked_ cX10_asked_ 3 (some .boolean) :: gW) rmX10_asked_ (g_Pc 21 D a (mE a cI cZ σ) [(cI, .int), (cZ, .boolean)] [.ref (a 0), .int x1, .int x2]) (g_Qi 21 D a (mE a cI cZ (f_X10_asked_ σ x1 x2).2) (f_X10_asked_ σ x1 x2).1) 0 0 (g_Own 21 a) := by
  generalize hh : f_X10_asked_ σ x1 x2 = out
  refine g_metz (by decide) hj (Nat.le_of_ble_eq_true rfl) ?_
  intro p e s m args below meth c Q ls F hl hI hq
  have hx := F.1.1
  have hb := F.1.2.1
  have hl : lv_has ls 3 [(0, .ref (a 0)), (1, .int x1), (2, .int x2)] := hl
  have h := hh
  unfold f_X10_asked_ at h
  refine lv_aload_n hx hb dX10_asked__0 rfl (lv_at hl 0 rfl) ?_
  refine lv_iload_n hx hb dX10_asked__1 rfl (lv_at hl 1 rfl) ?_
  obtain ⟨j18, hj18, h⟩ := gJoin1_in h
  have J18 : ∀ (w0_18 : Int32) (H : Heap) (locs : List Loc) (ls : Array Slot), j18 w0_18 = out → g_S 21 D a (mE a cI cZ σ) s.heap H locs → lv_has ls 3 [(0, .ref (a 0))] → W p l e rmX10_asked_ s m args below meth c H locs 0 0 Q (F0 m 18 ls [.int w0_18, .ref (a 0)]) := by
    intro w0_18 H locs ls h hI hl
    rw [hj18] at h
    refine g_put (E' := mE a cI cZ (g_sf σ 6 w0_18)) F hI (by decide) mE_0 rfl ku_X10 tyX10_ok nmX10 26 (by decide) kf_X10_78 rfl rfl rfl rfl (Nat.le_of_ble_eq_true rfl) rfl mE_sf dX10_asked__18 (fun H locs hI => ?_)
    refine lv_aload_n hx hb dX10_asked__21 rfl (lv_at hl 0 rfl) ?_
    refine g_get F hI (by decide) mE_0 rfl ku_X10 26 (by decide) kf_X10_78 rfl dX10_asked__22 ?_
    refine lv_if_ne (tgt := 32) hx hb dX10_asked__25 (by decide) (fun c_25 => ?_) (fun c_25 => ?_)
    · have h := (if_neg c_25).symm.trans h
      refine lv_iconst (v := 0) hx hb dX10_asked__32 (by decide) ?_
      subst h
      exact hq _ _ _ _ _ (show (0 : Int32) &&& 1 = 0 from by decide) hI dX10_asked__33
    · have h := (if_pos c_25).symm.trans h
      refine lv_iconst (v := 1) hx hb dX10_asked__28 (by decide) ?_
      refine lv_goto (tgt := 33) hx hb dX10_asked__29 (by decide) ?_
      subst h
      exact hq _ _ _ _ _ (show (1 : Int32) &&& 1 = 1 from by decide) hI dX10_asked__33
  refine lv_if_ne (tgt := 9) hx hb dX10_asked__2 (by decide) (fun c_2 => ?_) (fun c_2 => ?_)
  · have h := (if_neg c_2).symm.trans h
    refine lv_iload_n hx hb dX10_asked__9 rfl (lv_at hl 2 rfl) ?_
    refine lv_if_eq (tgt := 17) hx hb dX10_asked__10 (by decide) (fun c_10 => ?_) (fun c_10 => ?_)
    · have h := (if_pos c_10).symm.trans h
      refine lv_iconst (v := 2) hx hb dX10_asked__17 (by decide) ?_
      exact J18 _ _ _ _ h hI (lv_sub hl [0] rfl)
    · have h := (if_neg c_10).symm.trans h
      refine lv_iconst (v := 0) hx hb dX10_asked__13 (by decide) ?_
      refine lv_goto (tgt := 18) hx hb dX10_asked__14 (by decide) ?_
      exact J18 _ _ _ _ h hI (lv_sub hl [0] rfl)
  · have h := (if_pos c_2).symm.trans h
    refine lv_iconst (v := 1) hx hb dX10_asked__5 (by decide) ?_
    refine lv_goto (tgt := 18) hx hb dX10_asked__6 (by decide) ?_
    exact J18 _ _ _ _ h hI (lv_sub hl [0] rfl)
/-- SpurlineModel.asked(ZZZ)Z -/
def f_X10_asked__ (σ : gSt) (x1 x2 x3 : Int32) : Int32 × gSt :=
  gJoin1 (fun (w0_26 : Int32) =>
      if (g_sf σ 6 w0_26).2 6 = 0 then
        (1, g_sf σ 6 w0_26)
      else
        (0, g_sf σ 6 w0_26)) (fun j26 =>
    if x1 = 0 then
      j26 1
    else
      if x2 = 0 then
        j26 2
      else
        if x3 = 0 then
          j26 3
        else
          j26 0)
abbrev rmX10_asked__ : Room := { frames := 0, cells := 0, slots := 0, locals := 0 }
theorem kb_X10_asked__ : g_CB yX10_asked__ cX10_asked__ 4 (some .boolean) 3 := ⟨kc_X10_asked__, kn_X10, by decide +kernel⟩
set_option maxRecDepth 100000 in
set_option maxHeartbeats 4000000 in
theorem c_X10_asked__ (l : Launch) (D : va_G) (a : Nat → Nat) (cI cZ : ClassId) (hj : g_Inj 21 a) (σ : gSt) (x1 x2 x3 : Int32) : Met l yX10_asked__ (Cond.code yX10_asked__ cX10_asked__ 4 (some .boolean) :: gW) rmX10_asked__ (g_Pc 21 D a (mE a cI cZ σ) [(cI, .int), (cZ, .boolean)] [.ref (a 0), .int x1, .int x2, .int x3]) (g_Qi 21 D a (mE a cI cZ (f_X10_asked__ σ x1 x2 x3).2) (f_X10_asked__ σ x1 x2 x3).1) 0 0 (g_Own 21 a) := by
  generalize hh : f_X10_asked__ σ x1 x2 x3 = out
  refine g_metz (by decide) hj (Nat.le_of_ble_eq_true rfl) ?_
  intro p e s m args below meth c Q ls F hl hI hq
  have hx := F.1.1
  have hb := F.1.2.1
  have hl : lv_has ls 4 [(0, .ref (a 0)), (1, .int x1), (2, .int x2), (3, .int x3)] := hl
  have h := hh
  unfold f_X10_asked__ at h
  refine lv_aload_n hx hb dX10_asked___0 rfl (lv_at hl 0 rfl) ?_
  refine lv_iload_n hx hb dX10_asked___1 rfl (lv_at hl 1 rfl) ?_
  obtain ⟨j26, hj26, h⟩ := gJoin1_in h
  have J26 : ∀ (w0_26 : Int32) (H : Heap) (locs : List Loc) (ls : Array Slot), j26 w0_26 = out → g_S 21 D a (mE a cI cZ σ) s.heap H locs → lv_has ls 4 [(0, .ref (a 0))] → W p l e rmX10_asked__ s m args below meth c H locs 0 0 Q (F0 m 26 ls [.int w0_26, .ref (a 0)]) := by
    intro w0_26 H locs ls h hI hl
    rw [hj26] at h
    refine g_put (E' := mE a cI cZ (g_sf σ 6 w0_26)) F hI (by decide) mE_0 rfl ku_X10 tyX10_ok nmX10 26 (by decide) kf_X10_78 rfl rfl rfl rfl (Nat.le_of_ble_eq_true rfl) rfl mE_sf dX10_asked___26 (fun H locs hI => ?_)
    refine lv_aload_n hx hb dX10_asked___29 rfl (lv_at hl 0 rfl) ?_
    refine g_get F hI (by decide) mE_0 rfl ku_X10 26 (by decide) kf_X10_78 rfl dX10_asked___30 ?_
    refine lv_if_ne (tgt := 40) hx hb dX10_asked___33 (by decide) (fun c_33 => ?_) (fun c_33 => ?_)
    · have h := (if_neg c_33).symm.trans h
      refine lv_iconst (v := 0) hx hb dX10_asked___40 (by decide) ?_
      subst h
      exact hq _ _ _ _ _ (show (0 : Int32) &&& 1 = 0 from by decide) hI dX10_asked___41
    · have h := (if_pos c_33).symm.trans h
      refine lv_iconst (v := 1) hx hb dX10_asked___36 (by decide) ?_
      refine lv_goto (tgt := 41) hx hb dX10_asked___37 (by decide) ?_
      subst h
      exact hq _ _ _ _ _ (show (1 : Int32) &&& 1 = 1 from by decide) hI dX10_asked___41
  refine lv_if_ne (tgt := 9) hx hb dX10_asked___2 (by decide) (fun c_2 => ?_) (fun c_2 => ?_)
  · have h := (if_neg c_2).symm.trans h
    refine lv_iload_n hx hb dX10_asked___9 rfl (lv_at hl 2 rfl) ?_
    refine lv_if_ne (tgt := 17) hx hb dX10_asked___10 (by decide) (fun c_10 => ?_) (fun c_10 => ?_)
    · have h := (if_neg c_10).symm.trans h
      refine lv_iload_n hx hb dX10_asked___17 rfl (lv_at hl 3 rfl) ?_
      refine lv_if_eq (tgt := 25) hx hb dX10_asked___18 (by decide) (fun c_18 => ?_) (fun c_18 => ?_)
      · have h := (if_pos c_18).symm.trans h
        refine lv_iconst (v := 3) hx hb dX10_asked___25 (by decide) ?_
        exact J26 _ _ _ _ h hI (lv_sub hl [0] rfl)
      · have h := (if_neg c_18).symm.trans h
        refine lv_iconst (v := 0) hx hb dX10_asked___21 (by decide) ?_
        refine lv_goto (tgt := 26) hx hb dX10_asked___22 (by decide) ?_
        exact J26 _ _ _ _ h hI (lv_sub hl [0] rfl)
    · have h := (if_pos c_10).symm.trans h
      refine lv_iconst (v := 2) hx hb dX10_asked___13 (by decide) ?_
      refine lv_goto (tgt := 26) hx hb dX10_asked___14 (by decide) ?_
      exact J26 _ _ _ _ h hI (lv_sub hl [0] rfl)
  · have h := (if_pos c_2).symm.trans h
    refine lv_iconst (v := 1) hx hb dX10_asked___5 (by decide) ?_
    refine lv_goto (tgt := 26) hx hb dX10_asked___6 (by decide) ?_
    exact J26 _ _ _ _ h hI (lv_sub hl [0] rfl)
/-- SpurlineModel.isCell(II)Z -/
def f_X10_isCell (σ : gSt) (x1 x2 : Int32) : Int32 :=
  if f_X10_in x1 0 ((σ.2 0) - 1) = 0 then
    0
  else
    if f_X10_in x2 0 ((σ.2 1) - 1) = 0 then
      0
    else
      1
abbrev rmX10_isCell : Room := { frames := 1, cells := 0, slots := 0, locals := 22 }
theorem kb_X10_isCell : g_CB yX10_isCell cX10_isCell 3 (some .boolean) 2 := ⟨kc_X10_isCell, kn_X10, by decide +kernel⟩
set_option maxRecDepth 100000 in
set_option maxHeartbeats 4000000 in
theorem c_X10_isCell (l : Launch) (D : va_G) (a : Nat → Nat) (cI cZ : ClassId) (hj : g_Inj 21 a) (σ : gSt) (x1 x2 : Int32) : Met l yX10_isCell (Cond.code yX10_isCell cX10_isCell 3 (some .boolean) :: gW) rmX10_isCell (g_Pc 21 D a (mE a cI cZ σ) [(cI, .int), (cZ, .boolean)] [.ref (a 0), .int x1, .int x2]) (g_Qi 21 D a (mE a cI cZ σ) (f_X10_isCell σ x1 x2)) 0 0 (g_Own 21 a) := by
  generalize hh : f_X10_isCell σ x1 x2 = out
  refine g_metz (by decide) hj (Nat.le_of_ble_eq_true rfl) ?_
  intro p e s m args below meth c Q ls F hl hI hq
  have hx := F.1.1
  have hb := F.1.2.1
  have hl : lv_has ls 3 [(0, .ref (a 0)), (1, .int x1), (2, .int x2)] := hl
  have h := hh
  unfold f_X10_isCell at h
  refine lv_iload_n hx hb dX10_isCell_0 rfl (lv_at hl 1 rfl) ?_
  refine lv_iconst (v := 0) hx hb dX10_isCell_1 (by decide) ?_
  refine lv_aload_n hx hb dX10_isCell_2 rfl (lv_at hl 0 rfl) ?_
  refine g_get F hI (by decide) mE_0 rfl ku_X10 0 (by decide) kf_X10_71 rfl dX10_isCell_3 ?_
  refine lv_iconst (v := 1) hx hb dX10_isCell_6 (by decide) ?_
  refine lv_isub hx hb dX10_isCell_7 ?_
  refine g_callSi (E' := mE a cI cZ σ) (As := [.int x1, .int 0, .int ((σ.2 0) - 1)]) (rest := []) F hI (c_X10_in l D a cI cZ F.2.2 σ x1 0 ((σ.2 0) - 1)) kb_X10_in kt_X10_in km_X10_81 ⟨Nat.le_of_ble_eq_true rfl, Nat.le_of_ble_eq_true rfl, rfl, rfl⟩ hl.1 rfl (Nat.le_of_ble_eq_true rfl) ⟨Nat.zero_le _, Nat.zero_le _⟩ dX10_isCell_8 (fun H locs hI => ?_)
  refine lv_if_eq (tgt := 32) hx hb dX10_isCell_11 (by decide) (fun c_11 => ?_) (fun c_11 => ?_)
  · have h := (if_pos c_11).symm.trans h
    refine lv_iconst (v := 0) hx hb dX10_isCell_32 (by decide) ?_
    subst h
    exact hq _ _ _ _ _ (show (0 : Int32) &&& 1 = 0 from by decide) hI dX10_isCell_33
  · have h := (if_neg c_11).symm.trans h
    refine lv_iload_n hx hb dX10_isCell_14 rfl (lv_at hl 2 rfl) ?_
    refine lv_iconst (v := 0) hx hb dX10_isCell_15 (by decide) ?_
    refine lv_aload_n hx hb dX10_isCell_16 rfl (lv_at hl 0 rfl) ?_
    refine g_get F hI (by decide) mE_0 rfl ku_X10 1 (by decide) kf_X10_75 rfl dX10_isCell_17 ?_
    refine lv_iconst (v := 1) hx hb dX10_isCell_20 (by decide) ?_
    refine lv_isub hx hb dX10_isCell_21 ?_
    refine g_callSi (E' := mE a cI cZ σ) (As := [.int x2, .int 0, .int ((σ.2 1) - 1)]) (rest := []) F hI (c_X10_in l D a cI cZ F.2.2 σ x2 0 ((σ.2 1) - 1)) kb_X10_in kt_X10_in km_X10_81 ⟨Nat.le_of_ble_eq_true rfl, Nat.le_of_ble_eq_true rfl, rfl, rfl⟩ hl.1 rfl (Nat.le_of_ble_eq_true rfl) ⟨Nat.zero_le _, Nat.zero_le _⟩ dX10_isCell_22 (fun H locs hI => ?_)
    refine lv_if_eq (tgt := 32) hx hb dX10_isCell_25 (by decide) (fun c_25 => ?_) (fun c_25 => ?_)
    · have h := (if_pos c_25).symm.trans h
      refine lv_iconst (v := 0) hx hb dX10_isCell_32 (by decide) ?_
      subst h
      exact hq _ _ _ _ _ (show (0 : Int32) &&& 1 = 0 from by decide) hI dX10_isCell_33
    · have h := (if_neg c_25).symm.trans h
      refine lv_iconst (v := 1) hx hb dX10_isCell_28 (by decide) ?_
      refine lv_goto (tgt := 33) hx hb dX10_isCell_29 (by decide) ?_
      subst h
      exact hq _ _ _ _ _ (show (1 : Int32) &&& 1 = 1 from by decide) hI dX10_isCell_33
/-- SpurlineModel.isControl(I)Z -/
def f_X10_isControl (σ : gSt) (x1 : Int32) : Int32 :=
  (f_X10_in x1 0 ((σ.2 2) - 1)) &&& 1
abbrev rmX10_isControl : Room := { frames := 1, cells := 0, slots := 0, locals := 22 }
theorem kb_X10_isControl : g_CB yX10_isControl cX10_isControl 2 (some .boolean) 1 := ⟨kc_X10_isControl, kn_X10, by decide +kernel⟩
set_option maxRecDepth 100000 in
set_option maxHeartbeats 4000000 in
theorem c_X10_isControl (l : Launch) (D : va_G) (a : Nat → Nat) (cI cZ : ClassId) (hj : g_Inj 21 a) (σ : gSt) (x1 : Int32) : Met l yX10_isControl (Cond.code yX10_isControl cX10_isControl 2 (some .boolean) :: gW) rmX10_isControl (g_Pc 21 D a (mE a cI cZ σ) [(cI, .int), (cZ, .boolean)] [.ref (a 0), .int x1]) (g_Qi 21 D a (mE a cI cZ σ) (f_X10_isControl σ x1)) 0 0 (g_Own 21 a) := by
  generalize hh : f_X10_isControl σ x1 = out
  refine g_metz (by decide) hj (Nat.le_of_ble_eq_true rfl) ?_
  intro p e s m args below meth c Q ls F hl hI hq
  have hx := F.1.1
  have hb := F.1.2.1
  have hl : lv_has ls 2 [(0, .ref (a 0)), (1, .int x1)] := hl
  have h := hh
  unfold f_X10_isControl at h
  refine lv_iload_n hx hb dX10_isControl_0 rfl (lv_at hl 1 rfl) ?_
  refine lv_iconst (v := 0) hx hb dX10_isControl_1 (by decide) ?_
  refine lv_aload_n hx hb dX10_isControl_2 rfl (lv_at hl 0 rfl) ?_
  refine g_get F hI (by decide) mE_0 rfl ku_X10 6 (by decide) kf_X10_85 rfl dX10_isControl_3 ?_
  refine lv_iconst (v := 1) hx hb dX10_isControl_6 (by decide) ?_
  refine lv_isub hx hb dX10_isControl_7 ?_
  refine g_callSi (E' := mE a cI cZ σ) (As := [.int x1, .int 0, .int ((σ.2 2) - 1)]) (rest := []) F hI (c_X10_in l D a cI cZ F.2.2 σ x1 0 ((σ.2 2) - 1)) kb_X10_in kt_X10_in km_X10_81 ⟨Nat.le_of_ble_eq_true rfl, Nat.le_of_ble_eq_true rfl, rfl, rfl⟩ hl.1 rfl (Nat.le_of_ble_eq_true rfl) ⟨Nat.zero_le _, Nat.zero_le _⟩ dX10_isControl_8 (fun H locs hI => ?_)
  subst h
  exact hq _ _ _ _ _ rfl hI dX10_isControl_11
/-- SpurlineModel.isClass(I)Z -/
def f_X10_isClass (x0 : Int32) : Int32 :=
  (f_X10_in x0 0 4) &&& 1
abbrev rmX10_isClass : Room := { frames := 1, cells := 0, slots := 0, locals := 22 }
theorem kb_X10_isClass : g_CB yX10_isClass cX10_isClass 1 (some .boolean) 1 := ⟨kc_X10_isClass, kn_X10, by decide +kernel⟩
set_option maxRecDepth 100000 in
set_option maxHeartbeats 4000000 in
theorem c_X10_isClass (l : Launch) (D : va_G) (a : Nat → Nat) (cI cZ : ClassId) (hj : g_Inj 21 a) (σ : gSt) (x0 : Int32) : Met l yX10_isClass (Cond.code yX10_isClass cX10_isClass 1 (some .boolean) :: gW) rmX10_isClass (g_Pc 21 D a (mE a cI cZ σ) [(cI, .int), (cZ, .boolean)] [.int x0]) (g_Qi 21 D a (mE a cI cZ σ) (f_X10_isClass x0)) 0 0 (g_Own 21 a) := by
  generalize hh : f_X10_isClass x0 = out
  refine g_metz (by decide) hj (Nat.le_of_ble_eq_true rfl) ?_
  intro p e s m args below meth c Q ls F hl hI hq
  have hx := F.1.1
  have hb := F.1.2.1
  have hl : lv_has ls 1 [(0, .int x0)] := hl
  have h := hh
  unfold f_X10_isClass at h
  refine lv_iload_n hx hb dX10_isClass_0 rfl (lv_at hl 0 rfl) ?_
  refine lv_iconst (v := 0) hx hb dX10_isClass_1 (by decide) ?_
  refine lv_iconst (v := 4) hx hb dX10_isClass_2 (by decide) ?_
  refine g_callSi (E' := mE a cI cZ σ) (As := [.int x0, .int 0, .int 4]) (rest := []) F hI (c_X10_in l D a cI cZ F.2.2 σ x0 0 4) kb_X10_in kt_X10_in km_X10_81 ⟨Nat.le_of_ble_eq_true rfl, Nat.le_of_ble_eq_true rfl, rfl, rfl⟩ hl.1 rfl (Nat.le_of_ble_eq_true rfl) ⟨Nat.zero_le _, Nat.zero_le _⟩ dX10_isClass_3 (fun H locs hI => ?_)
  subst h
  exact hq _ _ _ _ _ rfl hI dX10_isClass_6
/-- SpurlineModel.isRunner(I)Z -/
def f_X10_isRunner (σ : gSt) (x1 : Int32) : Int32 :=
  (f_X10_in x1 0 ((σ.2 3) - 1)) &&& 1
abbrev rmX10_isRunner : Room := { frames := 1, cells := 0, slots := 0, locals := 22 }
theorem kb_X10_isRunner : g_CB yX10_isRunner cX10_isRunner 2 (some .boolean) 1 := ⟨kc_X10_isRunner, kn_X10, by decide +kernel⟩
set_option maxRecDepth 100000 in
set_option maxHeartbeats 4000000 in
theorem c_X10_isRunner (l : Launch) (D : va_G) (a : Nat → Nat) (cI cZ : ClassId) (hj : g_Inj 21 a) (σ : gSt) (x1 : Int32) : Met l yX10_isRunner (Cond.code yX10_isRunner cX10_isRunner 2 (some .boolean) :: gW) rmX10_isRunner (g_Pc 21 D a (mE a cI cZ σ) [(cI, .int), (cZ, .boolean)] [.ref (a 0), .int x1]) (g_Qi 21 D a (mE a cI cZ σ) (f_X10_isRunner σ x1)) 0 0 (g_Own 21 a) := by
  generalize hh : f_X10_isRunner σ x1 = out
  refine g_metz (by decide) hj (Nat.le_of_ble_eq_true rfl) ?_
  intro p e s m args below meth c Q ls F hl hI hq
  have hx := F.1.1
  have hb := F.1.2.1
  have hl : lv_has ls 2 [(0, .ref (a 0)), (1, .int x1)] := hl
  have h := hh
  unfold f_X10_isRunner at h
  refine lv_iload_n hx hb dX10_isRunner_0 rfl (lv_at hl 1 rfl) ?_
  refine lv_iconst (v := 0) hx hb dX10_isRunner_1 (by decide) ?_
  refine lv_aload_n hx hb dX10_isRunner_2 rfl (lv_at hl 0 rfl) ?_
  refine g_get F hI (by decide) mE_0 rfl ku_X10 15 (by decide) kf_X10_88 rfl dX10_isRunner_3 ?_
  refine lv_iconst (v := 1) hx hb dX10_isRunner_6 (by decide) ?_
  refine lv_isub hx hb dX10_isRunner_7 ?_
  refine g_callSi (E' := mE a cI cZ σ) (As := [.int x1, .int 0, .int ((σ.2 3) - 1)]) (rest := []) F hI (c_X10_in l D a cI cZ F.2.2 σ x1 0 ((σ.2 3) - 1)) kb_X10_in kt_X10_in km_X10_81 ⟨Nat.le_of_ble_eq_true rfl, Nat.le_of_ble_eq_true rfl, rfl, rfl⟩ hl.1 rfl (Nat.le_of_ble_eq_true rfl) ⟨Nat.zero_le _, Nat.zero_le _⟩ dX10_isRunner_8 (fun H locs hI => ?_)
  subst h
  exact hq _ _ _ _ _ rfl hI dX10_isRunner_11
/-- SpurlineModel.setHeight(III)I -/
def f_X10_setHeight (N : Nat) (σ : gSt) (x1 x2 x3 : Int32) : Option (Int32 × gSt) :=
  if (f_X10_asked_ σ (f_X10_isCell σ x1 x2) (f_X10_in x3 0 255)).1 = 0 then
    some (0, (f_X10_asked_ σ (f_X10_isCell σ x1 x2) (f_X10_in x3 0 255)).2)
  else
    if (12 * x2) + x1 < 0 ∨ 144 ≤ ((12 * x2) + x1).toNatClampNeg then none else
    if (12 * x2) + x1 < 0 ∨ 144 ≤ ((12 * x2) + x1).toNatClampNeg then none else
    some (g_ga ((f_X10_asked_ σ (f_X10_isCell σ x1 x2) (f_X10_in x3 0 255)).2) 0 ((12 * x2) + x1), g_pa ((f_X10_asked_ σ (f_X10_isCell σ x1 x2) (f_X10_in x3 0 255)).2) 0 ((12 * x2) + x1) x3)
abbrev rmX10_setHeight : Room := { frames := 2, cells := 0, slots := 0, locals := 44 }
theorem kb_X10_setHeight : g_CB yX10_setHeight cX10_setHeight 5 (some .int) 3 := ⟨kc_X10_setHeight, kn_X10, by decide +kernel⟩
set_option maxRecDepth 100000 in
set_option maxHeartbeats 4000000 in
theorem c_X10_setHeight (l : Launch) (D : va_G) (a : Nat → Nat) (cI cZ : ClassId) (hj : g_Inj 21 a) (N : Nat) (σ : gSt) (x1 x2 x3 : Int32) (out : Int32 × gSt) (hh : f_X10_setHeight N σ x1 x2 x3 = some out) : Met l yX10_setHeight (Cond.code yX10_setHeight cX10_setHeight 5 (some .int) :: gW) rmX10_setHeight (g_Pc 21 D a (mE a cI cZ σ) [(cI, .int), (cZ, .boolean)] [.ref (a 0), .int x1, .int x2, .int x3]) (g_Qi 21 D a (mE a cI cZ out.2) out.1) 0 0 (g_Own 21 a) := by
  refine g_meti (by decide) hj (Nat.le_of_ble_eq_true rfl) ?_
  intro p e s m args below meth c Q ls F hl hI hq
  have hx := F.1.1
  have hb := F.1.2.1
  have hl : lv_has ls 5 [(0, .ref (a 0)), (1, .int x1), (2, .int x2), (3, .int x3)] := hl
  have h := hh
  unfold f_X10_setHeight at h
  refine lv_aload_n hx hb dX10_setHeight_0 rfl (lv_at hl 0 rfl) ?_
  refine lv_aload_n hx hb dX10_setHeight_1 rfl (lv_at hl 0 rfl) ?_
  refine lv_iload_n hx hb dX10_setHeight_2 rfl (lv_at hl 1 rfl) ?_
  refine lv_iload_n hx hb dX10_setHeight_3 rfl (lv_at hl 2 rfl) ?_
  refine g_callVi (E' := mE a cI cZ σ) (k0 := 0) (As := [.int x1, .int x2]) (rest := [.ref (a 0)]) F hI (c_X10_isCell l D a cI cZ F.2.2 σ x1 x2) kb_X10_isCell ki_X10_isCell ks_X10_isCell km_X10_91 ⟨Nat.le_of_ble_eq_true rfl, Nat.le_of_ble_eq_true rfl, rfl, rfl⟩ (by decide) mE_0 rfl hl.1 rfl (Nat.le_of_ble_eq_true rfl) ⟨Nat.zero_le _, Nat.zero_le _⟩ dX10_setHeight_4 (fun H locs hI => ?_)
  refine lv_iload_n hx hb dX10_setHeight_7 rfl (lv_at hl 3 rfl) ?_
  refine lv_iconst (v := 0) hx hb dX10_setHeight_8 (by decide) ?_
  refine lv_sipush (v := 255) hx hb dX10_setHeight_9 (by decide) ?_
  refine g_callSi (E' := mE a cI cZ σ) (As := [.int x3, .int 0, .int 255]) (rest := [.int (f_X10_isCell σ x1 x2), .ref (a 0)]) F hI (c_X10_in l D a cI cZ F.2.2 σ x3 0 255) kb_X10_in kt_X10_in km_X10_81 ⟨Nat.le_of_ble_eq_true rfl, Nat.le_of_ble_eq_true rfl, rfl, rfl⟩ hl.1 rfl (Nat.le_of_ble_eq_true rfl) ⟨Nat.zero_le _, Nat.zero_le _⟩ dX10_setHeight_12 (fun H locs hI => ?_)
  refine g_callVi (E' := mE a cI cZ ((f_X10_asked_ σ (f_X10_isCell σ x1 x2) (f_X10_in x3 0 255)).2)) (k0 := 0) (As := [.int (f_X10_isCell σ x1 x2), .int (f_X10_in x3 0 255)]) (rest := []) F hI (c_X10_asked_ l D a cI cZ F.2.2 σ (f_X10_isCell σ x1 x2) (f_X10_in x3 0 255)) kb_X10_asked_ ki_X10_asked_ ks_X10_asked_ km_X10_95 ⟨Nat.le_of_ble_eq_true rfl, Nat.le_of_ble_eq_true rfl, rfl, rfl⟩ (by decide) mE_0 rfl hl.1 rfl (Nat.le_of_ble_eq_true rfl) ⟨Nat.zero_le _, Nat.zero_le _⟩ dX10_setHeight_15 (fun H locs hI => ?_)
  refine lv_if_ne (tgt := 23) hx hb dX10_setHeight_18 (by decide) (fun c_18 => ?_) (fun c_18 => ?_)
  · have h := (if_neg c_18).symm.trans h
    refine lv_aload_n hx hb dX10_setHeight_23 rfl (lv_at hl 0 rfl) ?_
    refine g_get F hI (by decide) mE_0 rfl ku_X10 2 (by decide) kf_X10_7 rfl dX10_setHeight_24 ?_
    refine lv_bipush (v := 12) hx hb dX10_setHeight_27 (by decide) ?_
    refine lv_iload_n hx hb dX10_setHeight_29 rfl (lv_at hl 2 rfl) ?_
    refine lv_imul hx hb dX10_setHeight_30 ?_
    refine lv_iload_n hx hb dX10_setHeight_31 rfl (lv_at hl 1 rfl) ?_
    refine lv_iadd hx hb dX10_setHeight_32 ?_
    obtain ⟨g_33, h⟩ := g_guard h
    refine g_iald F hI (by decide) mE_a0 0 rfl g_33 dX10_setHeight_33 ?_
    refine lv_istore (lv' := [(4, .int (g_ga ((f_X10_asked_ σ (f_X10_isCell σ x1 x2) (f_X10_in x3 0 255)).2) 0 ((12 * x2) + x1))), (0, .ref (a 0)), (1, .int x1), (2, .int x2), (3, .int x3)]) hx hb dX10_setHeight_34 hl (by decide) rfl (fun ls hl => ?_)
    refine lv_aload_n hx hb dX10_setHeight_36 rfl (lv_at hl 1 rfl) ?_
    refine g_get F hI (by decide) mE_0 rfl ku_X10 2 (by decide) kf_X10_7 rfl dX10_setHeight_37 ?_
    refine lv_bipush (v := 12) hx hb dX10_setHeight_40 (by decide) ?_
    refine lv_iload_n hx hb dX10_setHeight_42 rfl (lv_at hl 3 rfl) ?_
    refine lv_imul hx hb dX10_setHeight_43 ?_
    refine lv_iload_n hx hb dX10_setHeight_44 rfl (lv_at hl 2 rfl) ?_
    refine lv_iadd hx hb dX10_setHeight_45 ?_
    refine lv_iload_n hx hb dX10_setHeight_46 rfl (lv_at hl 4 rfl) ?_
    obtain ⟨g_47, h⟩ := g_guard h
    refine g_iast (E' := mE a cI cZ (g_pa ((f_X10_asked_ σ (f_X10_isCell σ x1 x2) (f_X10_in x3 0 255)).2) 0 ((12 * x2) + x1) x3)) F hI (by decide) mE_a0 0 rfl g_47 rfl mE_sa dX10_setHeight_47 (fun H locs hI => ?_)
    refine lv_iload hx hb dX10_setHeight_48 (lv_at hl 0 rfl) ?_
    have h := Option.some.inj h
    subst h
    exact hq _ _ _ _ hI dX10_setHeight_50
  · have h := (if_pos c_18).symm.trans h
    refine lv_iconst (v := 0) hx hb dX10_setHeight_21 (by decide) ?_
    have h := Option.some.inj h
    subst h
    exact hq _ _ _ _ hI dX10_setHeight_22
/-- SpurlineModel.apart(II)I -/
def f_X10_apart (x0 x1 : Int32) : Int32 :=
  if x1 ≤ x0 then
    x0 - x1
  else
    x1 - x0
abbrev rmX10_apart : Room := { frames := 0, cells := 0, slots := 0, locals := 0 }
theorem kb_X10_apart : g_CB yX10_apart cX10_apart 2 (some .int) 2 := ⟨kc_X10_apart, kn_X10, by decide +kernel⟩
set_option maxRecDepth 100000 in
set_option maxHeartbeats 4000000 in
theorem c_X10_apart (l : Launch) (D : va_G) (a : Nat → Nat) (cI cZ : ClassId) (hj : g_Inj 21 a) (σ : gSt) (x0 x1 : Int32) : Met l yX10_apart (Cond.code yX10_apart cX10_apart 2 (some .int) :: gW) rmX10_apart (g_Pc 21 D a (mE a cI cZ σ) [(cI, .int), (cZ, .boolean)] [.int x0, .int x1]) (g_Qi 21 D a (mE a cI cZ σ) (f_X10_apart x0 x1)) 0 0 (g_Own 21 a) := by
  generalize hh : f_X10_apart x0 x1 = out
  refine g_meti (by decide) hj (Nat.le_of_ble_eq_true rfl) ?_
  intro p e s m args below meth c Q ls F hl hI hq
  have hx := F.1.1
  have hb := F.1.2.1
  have hl : lv_has ls 2 [(0, .int x0), (1, .int x1)] := hl
  have h := hh
  unfold f_X10_apart at h
  refine lv_iload_n hx hb dX10_apart_0 rfl (lv_at hl 0 rfl) ?_
  refine lv_iload_n hx hb dX10_apart_1 rfl (lv_at hl 1 rfl) ?_
  refine lv_icmp_ge (tgt := 11) hx hb dX10_apart_2 (by decide) (fun c_2 => ?_) (fun c_2 => ?_)
  · have h := (if_pos c_2).symm.trans h
    refine lv_iload_n hx hb dX10_apart_11 rfl (lv_at hl 0 rfl) ?_
    refine lv_iload_n hx hb dX10_apart_12 rfl (lv_at hl 1 rfl) ?_
    refine lv_isub hx hb dX10_apart_13 ?_
    subst h
    exact hq _ _ _ _ hI dX10_apart_14
  · have h := (if_neg c_2).symm.trans h
    refine lv_iload_n hx hb dX10_apart_5 rfl (lv_at hl 1 rfl) ?_
    refine lv_iload_n hx hb dX10_apart_6 rfl (lv_at hl 0 rfl) ?_
    refine lv_isub hx hb dX10_apart_7 ?_
    refine lv_goto (tgt := 14) hx hb dX10_apart_8 (by decide) ?_
    subst h
    exact hq _ _ _ _ hI dX10_apart_14
/-- SpurlineModel.hill(IIII)I -/
def f_X10_hill (N : Nat) (σ : gSt) (x1 x2 x3 x4 : Int32) : Option (Int32 × gSt) :=
  gJoin1 (fun (w0_35 : Int32) =>
      if (f_X10_asked_ σ (f_X10_isCell σ x1 x2) w0_35).1 = 0 then
        some (0, (f_X10_asked_ σ (f_X10_isCell σ x1 x2) w0_35).2)
      else
        gLoop3 (fun self49 (v5_49 : Int32) (v6_49 : Int32) (s_49 : gSt) =>
          if 144 ≤ v6_49 then
            some (v5_49, s_49)
          else
            gJoin1 (fun (w0_99 : Int32) =>
                gJoin2 (fun (v5_151 : Int32) (s_151 : gSt) =>
                    self49 v5_151 (v6_49 + 1) s_151) (fun j151 =>
                  if f_X10_isCell s_49 (v6_49 - v6_49 / 12 * 12) (v6_49 / 12) = 0 then
                    j151 v5_49 s_49
                  else
                    if v6_49 < 0 ∨ 144 ≤ v6_49.toNatClampNeg then none else
                    if x3 - (x4 * w0_99) ≤ g_ga s_49 0 v6_49 then
                      j151 v5_49 s_49
                    else
                      if v6_49 < 0 ∨ 144 ≤ v6_49.toNatClampNeg then none else
                      j151 (v5_49 + 1) (g_pa s_49 0 v6_49 (x3 - (x4 * w0_99))))) (fun j99 =>
              if f_X10_apart (v6_49 - v6_49 / 12 * 12) x1 ≤ f_X10_apart (v6_49 / 12) x2 then
                j99 (f_X10_apart (v6_49 / 12) x2)
              else
                j99 (f_X10_apart (v6_49 - v6_49 / 12 * 12) x1))) N 0 0 ((f_X10_asked_ σ (f_X10_isCell σ x1 x2) w0_35).2)) (fun j35 =>
  gJoin0 (
      j35 0) (fun j34 =>
    if f_X10_in x3 0 255 = 0 then
      j34
    else
      if f_X10_in x4 1 255 = 0 then
        j34
      else
        j35 1))
abbrev rmX10_hill : Room := { frames := 2, cells := 0, slots := 0, locals := 44 }
theorem kb_X10_hill : g_CB yX10_hill cX10_hill 9 (some .int) 4 := ⟨kc_X10_hill, kn_X10, by decide +kernel⟩
set_option maxRecDepth 100000 in
set_option maxHeartbeats 4000000 in
theorem c_X10_hill (l : Launch) (D : va_G) (a : Nat → Nat) (cI cZ : ClassId) (hj : g_Inj 21 a) (N : Nat) (σ : gSt) (x1 x2 x3 x4 : Int32) (out : Int32 × gSt) (hh : f_X10_hill N σ x1 x2 x3 x4 = some out) : Met l yX10_hill (Cond.code yX10_hill cX10_hill 9 (some .int) :: gW) rmX10_hill (g_Pc 21 D a (mE a cI cZ σ) [(cI, .int), (cZ, .boolean)] [.ref (a 0), .int x1, .int x2, .int x3, .int x4]) (g_Qi 21 D a (mE a cI cZ out.2) out.1) 0 0 (g_Own 21 a) := by
  refine g_meti (by decide) hj (Nat.le_of_ble_eq_true rfl) ?_
  intro p e s m args below meth c Q ls F hl hI hq
  have hx := F.1.1
  have hb := F.1.2.1
  have hl : lv_has ls 9 [(0, .ref (a 0)), (1, .int x1), (2, .int x2), (3, .int x3), (4, .int x4)] := hl
  have h := hh
  unfold f_X10_hill at h
  refine lv_aload_n hx hb dX10_hill_0 rfl (lv_at hl 0 rfl) ?_
  refine lv_aload_n hx hb dX10_hill_1 rfl (lv_at hl 0 rfl) ?_
  refine lv_iload_n hx hb dX10_hill_2 rfl (lv_at hl 1 rfl) ?_
  refine lv_iload_n hx hb dX10_hill_3 rfl (lv_at hl 2 rfl) ?_
  refine g_callVi (E' := mE a cI cZ σ) (k0 := 0) (As := [.int x1, .int x2]) (rest := [.ref (a 0)]) F hI (c_X10_isCell l D a cI cZ F.2.2 σ x1 x2) kb_X10_isCell ki_X10_isCell ks_X10_isCell km_X10_91 ⟨Nat.le_of_ble_eq_true rfl, Nat.le_of_ble_eq_true rfl, rfl, rfl⟩ (by decide) mE_0 rfl hl.1 rfl (Nat.le_of_ble_eq_true rfl) ⟨Nat.zero_le _, Nat.zero_le _⟩ dX10_hill_4 (fun H locs hI => ?_)
  refine lv_iload_n hx hb dX10_hill_7 rfl (lv_at hl 3 rfl) ?_
  refine lv_iconst (v := 0) hx hb dX10_hill_8 (by decide) ?_
  refine lv_sipush (v := 255) hx hb dX10_hill_9 (by decide) ?_
  refine g_callSi (E' := mE a cI cZ σ) (As := [.int x3, .int 0, .int 255]) (rest := [.int (f_X10_isCell σ x1 x2), .ref (a 0)]) F hI (c_X10_in l D a cI cZ F.2.2 σ x3 0 255) kb_X10_in kt_X10_in km_X10_81 ⟨Nat.le_of_ble_eq_true rfl, Nat.le_of_ble_eq_true rfl, rfl, rfl⟩ hl.1 rfl (Nat.le_of_ble_eq_true rfl) ⟨Nat.zero_le _, Nat.zero_le _⟩ dX10_hill_12 (fun H locs hI => ?_)
  obtain ⟨j35, hj35, h⟩ := gJoin1_in h
  have J35 : ∀ (w0_35 : Int32) (H : Heap) (locs : List Loc) (ls : Array Slot), j35 w0_35 = some out → g_S 21 D a (mE a cI cZ σ) s.heap H locs → lv_has ls 9 [(0, .ref (a 0)), (1, .int x1), (2, .int x2), (3, .int x3), (4, .int x4)] → W p l e rmX10_hill s m args below meth c H locs 0 0 Q (F0 m 35 ls [.int w0_35, .int (f_X10_isCell σ x1 x2), .ref (a 0)]) := by
    intro w0_35 H locs ls h hI hl
    rw [hj35] at h
    refine g_callVi (E' := mE a cI cZ ((f_X10_asked_ σ (f_X10_isCell σ x1 x2) w0_35).2)) (k0 := 0) (As := [.int (f_X10_isCell σ x1 x2), .int w0_35]) (rest := []) F hI (c_X10_asked_ l D a cI cZ F.2.2 σ (f_X10_isCell σ x1 x2) w0_35) kb_X10_asked_ ki_X10_asked_ ks_X10_asked_ km_X10_95 ⟨Nat.le_of_ble_eq_true rfl, Nat.le_of_ble_eq_true rfl, rfl, rfl⟩ (by decide) mE_0 rfl hl.1 rfl (Nat.le_of_ble_eq_true rfl) ⟨Nat.zero_le _, Nat.zero_le _⟩ dX10_hill_35 (fun H locs hI => ?_)
    refine lv_if_ne (tgt := 43) hx hb dX10_hill_38 (by decide) (fun c_38 => ?_) (fun c_38 => ?_)
    · have h := (if_neg c_38).symm.trans h
      refine lv_iconst (v := 0) hx hb dX10_hill_43 (by decide) ?_
      refine lv_istore (lv' := [(5, .int 0), (0, .ref (a 0)), (1, .int x1), (2, .int x2), (3, .int x3), (4, .int x4)]) hx hb dX10_hill_44 hl (by decide) rfl (fun ls hl => ?_)
      refine lv_iconst (v := 0) hx hb dX10_hill_46 (by decide) ?_
      refine lv_istore (lv' := [(6, .int 0), (5, .int 0), (0, .ref (a 0)), (1, .int x1), (2, .int x2), (3, .int x3), (4, .int x4)]) hx hb dX10_hill_47 hl (by decide) rfl (fun ls hl => ?_)
      obtain ⟨lp49, hz49, hs49, h⟩ := gLoop3_in h
      have L49 : ∀ (n : Nat) (v5_49 : Int32) (v6_49 : Int32) (s_49 : gSt) (H : Heap) (locs : List Loc) (ls : Array Slot), lp49 n v5_49 v6_49 s_49 = some out → g_S 21 D a (mE a cI cZ s_49) s.heap H locs → lv_has ls 9 [(0, .ref (a 0)), (1, .int x1), (2, .int x2), (3, .int x3), (4, .int x4), (5, .int v5_49), (6, .int v6_49)] → W p l e rmX10_hill s m args below meth c H locs 0 0 Q (F0 m 49 ls []) := by
        intro n
        induction n with
        | zero => intro v5_49 v6_49 s_49 H locs ls h; rw [hz49] at h; cases h
        | succ n ih49 =>
          intro v5_49 v6_49 s_49 H locs ls h hI hl
          rw [hs49] at h
          refine lv_iload hx hb dX10_hill_49 (lv_at hl 6 rfl) ?_
          refine lv_sipush (v := 144) hx hb dX10_hill_51 (by decide) ?_
          refine lv_icmp_ge (tgt := 157) hx hb dX10_hill_54 (by decide) (fun c_54 => ?_) (fun c_54 => ?_)
          · have h := (if_pos c_54).symm.trans h
            refine lv_iload hx hb dX10_hill_157 (lv_at hl 5 rfl) ?_
            have h := Option.some.inj h
            subst h
            exact hq _ _ _ _ hI dX10_hill_159
          · have h := (if_neg c_54).symm.trans h
            refine lv_iload hx hb dX10_hill_57 (lv_at hl 6 rfl) ?_
            refine lv_bipush (v := 12) hx hb dX10_hill_59 (by decide) ?_
            refine lv_irem hx hb dX10_hill_61 (by decide) ?_
            refine lv_iload_n hx hb dX10_hill_62 rfl (lv_at hl 1 rfl) ?_
            refine g_callSi (E' := mE a cI cZ s_49) (As := [.int (v6_49 - v6_49 / 12 * 12), .int x1]) (rest := []) F hI (c_X10_apart l D a cI cZ F.2.2 s_49 (v6_49 - v6_49 / 12 * 12) x1) kb_X10_apart kt_X10_apart km_X10_99 ⟨Nat.le_of_ble_eq_true rfl, Nat.le_of_ble_eq_true rfl, rfl, rfl⟩ hl.1 rfl (Nat.le_of_ble_eq_true rfl) ⟨Nat.zero_le _, Nat.zero_le _⟩ dX10_hill_63 (fun H locs hI => ?_)
            refine lv_iload hx hb dX10_hill_66 (lv_at hl 6 rfl) ?_
            refine lv_bipush (v := 12) hx hb dX10_hill_68 (by decide) ?_
            refine lv_idiv hx hb dX10_hill_70 (by decide) ?_
            refine lv_iload_n hx hb dX10_hill_71 rfl (lv_at hl 2 rfl) ?_
            refine g_callSi (E' := mE a cI cZ s_49) (As := [.int (v6_49 / 12), .int x2]) (rest := [.int (f_X10_apart (v6_49 - v6_49 / 12 * 12) x1)]) F hI (c_X10_apart l D a cI cZ F.2.2 s_49 (v6_49 / 12) x2) kb_X10_apart kt_X10_apart km_X10_99 ⟨Nat.le_of_ble_eq_true rfl, Nat.le_of_ble_eq_true rfl, rfl, rfl⟩ hl.1 rfl (Nat.le_of_ble_eq_true rfl) ⟨Nat.zero_le _, Nat.zero_le _⟩ dX10_hill_72 (fun H locs hI => ?_)
            obtain ⟨j99, hj99, h⟩ := gJoin1_in h
            have J99 : ∀ (w0_99 : Int32) (H : Heap) (locs : List Loc) (ls : Array Slot), j99 w0_99 = some out → g_S 21 D a (mE a cI cZ s_49) s.heap H locs → lv_has ls 9 [(0, .ref (a 0)), (1, .int x1), (2, .int x2), (3, .int x3), (4, .int x4), (5, .int v5_49), (6, .int v6_49)] → W p l e rmX10_hill s m args below meth c H locs 0 0 Q (F0 m 99 ls [.int w0_99]) := by
              intro w0_99 H locs ls h hI hl
              rw [hj99] at h
              refine lv_istore (lv' := [(7, .int w0_99), (0, .ref (a 0)), (1, .int x1), (2, .int x2), (3, .int x3), (4, .int x4), (5, .int v5_49), (6, .int v6_49)]) hx hb dX10_hill_99 hl (by decide) rfl (fun ls hl => ?_)
              refine lv_iload_n hx hb dX10_hill_101 rfl (lv_at hl 4 rfl) ?_
              refine lv_iload hx hb dX10_hill_102 (lv_at hl 5 rfl) ?_
              refine lv_iload hx hb dX10_hill_104 (lv_at hl 0 rfl) ?_
              refine lv_imul hx hb dX10_hill_106 ?_
              refine lv_isub hx hb dX10_hill_107 ?_
              refine lv_istore (lv' := [(8, .int (x3 - (x4 * w0_99))), (7, .int w0_99), (0, .ref (a 0)), (1, .int x1), (2, .int x2), (3, .int x3), (4, .int x4), (5, .int v5_49), (6, .int v6_49)]) hx hb dX10_hill_108 hl (by decide) rfl (fun ls hl => ?_)
              refine lv_aload_n hx hb dX10_hill_110 rfl (lv_at hl 2 rfl) ?_
              refine lv_iload hx hb dX10_hill_111 (lv_at hl 8 rfl) ?_
              refine lv_bipush (v := 12) hx hb dX10_hill_113 (by decide) ?_
              refine lv_irem hx hb dX10_hill_115 (by decide) ?_
              refine lv_iload hx hb dX10_hill_116 (lv_at hl 8 rfl) ?_
              refine lv_bipush (v := 12) hx hb dX10_hill_118 (by decide) ?_
              refine lv_idiv hx hb dX10_hill_120 (by decide) ?_
              refine g_callVi (E' := mE a cI cZ s_49) (k0 := 0) (As := [.int (v6_49 - v6_49 / 12 * 12), .int (v6_49 / 12)]) (rest := []) F hI (c_X10_isCell l D a cI cZ F.2.2 s_49 (v6_49 - v6_49 / 12 * 12) (v6_49 / 12)) kb_X10_isCell ki_X10_isCell ks_X10_isCell km_X10_91 ⟨Nat.le_of_ble_eq_true rfl, Nat.le_of_ble_eq_true rfl, rfl, rfl⟩ (by decide) mE_0 rfl hl.1 rfl (Nat.le_of_ble_eq_true rfl) ⟨Nat.zero_le _, Nat.zero_le _⟩ dX10_hill_121 (fun H locs hI => ?_)
              obtain ⟨j151, hj151, h⟩ := gJoin2_in h
              have J151 : ∀ (v5_151 : Int32) (s_151 : gSt) (H : Heap) (locs : List Loc) (ls : Array Slot), j151 v5_151 s_151 = some out → g_S 21 D a (mE a cI cZ s_151) s.heap H locs → lv_has ls 9 [(0, .ref (a 0)), (1, .int x1), (2, .int x2), (3, .int x3), (4, .int x4), (5, .int v5_151), (6, .int v6_49)] → W p l e rmX10_hill s m args below meth c H locs 0 0 Q (F0 m 151 ls []) := by
                intro v5_151 s_151 H locs ls h hI hl
                rw [hj151] at h
                refine lv_iinc (v := v6_49 + 1) (lv' := [(6, .int (v6_49 + 1)), (0, .ref (a 0)), (1, .int x1), (2, .int x2), (3, .int x3), (4, .int x4), (5, .int v5_151)]) hx hb dX10_hill_151 hl (k := 6) rfl rfl (by decide) rfl (fun ls hl => ?_)
                refine lv_goto (tgt := 49) hx hb dX10_hill_154 (by decide) ?_
                exact ih49 _ _ _ _ _ _ h hI (lv_sub hl [1, 2, 3, 4, 5, 6, 0] rfl)
              refine lv_if_eq (tgt := 151) hx hb dX10_hill_124 (by decide) (fun c_124 => ?_) (fun c_124 => ?_)
              · have h := (if_pos c_124).symm.trans h
                exact J151 _ _ _ _ _ h hI (lv_sub hl [2, 3, 4, 5, 6, 7, 8] rfl)
              · have h := (if_neg c_124).symm.trans h
                refine lv_iload hx hb dX10_hill_127 (lv_at hl 0 rfl) ?_
                refine lv_aload_n hx hb dX10_hill_129 rfl (lv_at hl 2 rfl) ?_
                refine g_get F hI (by decide) mE_0 rfl ku_X10 2 (by decide) kf_X10_7 rfl dX10_hill_130 ?_
                refine lv_iload hx hb dX10_hill_133 (lv_at hl 8 rfl) ?_
                obtain ⟨g_135, h⟩ := g_guard h
                refine g_iald F hI (by decide) mE_a0 0 rfl g_135 dX10_hill_135 ?_
                refine lv_icmp_le (tgt := 151) hx hb dX10_hill_136 (by decide) (fun c_136 => ?_) (fun c_136 => ?_)
                · have h := (if_pos c_136).symm.trans h
                  exact J151 _ _ _ _ _ h hI (lv_sub hl [2, 3, 4, 5, 6, 7, 8] rfl)
                · have h := (if_neg c_136).symm.trans h
                  refine lv_aload_n hx hb dX10_hill_139 rfl (lv_at hl 2 rfl) ?_
                  refine g_get F hI (by decide) mE_0 rfl ku_X10 2 (by decide) kf_X10_7 rfl dX10_hill_140 ?_
                  refine lv_iload hx hb dX10_hill_143 (lv_at hl 8 rfl) ?_
                  refine lv_iload hx hb dX10_hill_145 (lv_at hl 0 rfl) ?_
                  obtain ⟨g_147, h⟩ := g_guard h
                  refine g_iast (E' := mE a cI cZ (g_pa s_49 0 v6_49 (x3 - (x4 * w0_99)))) F hI (by decide) mE_a0 0 rfl g_147 rfl mE_sa dX10_hill_147 (fun H locs hI => ?_)
                  refine lv_iinc (v := v5_49 + 1) (lv' := [(5, .int (v5_49 + 1)), (8, .int (x3 - (x4 * w0_99))), (7, .int w0_99), (0, .ref (a 0)), (1, .int x1), (2, .int x2), (3, .int x3), (4, .int x4), (6, .int v6_49)]) hx hb dX10_hill_148 hl (k := 7) rfl rfl (by decide) rfl (fun ls hl => ?_)
                  exact J151 _ _ _ _ _ h hI (lv_sub hl [3, 4, 5, 6, 7, 0, 8] rfl)
            refine lv_icmp_le (tgt := 90) hx hb dX10_hill_75 (by decide) (fun c_75 => ?_) (fun c_75 => ?_)
            · have h := (if_pos c_75).symm.trans h
              refine lv_iload hx hb dX10_hill_90 (lv_at hl 6 rfl) ?_
              refine lv_bipush (v := 12) hx hb dX10_hill_92 (by decide) ?_
              refine lv_idiv hx hb dX10_hill_94 (by decide) ?_
              refine lv_iload_n hx hb dX10_hill_95 rfl (lv_at hl 2 rfl) ?_
              refine g_callSi (E' := mE a cI cZ s_49) (As := [.int (v6_49 / 12), .int x2]) (rest := []) F hI (c_X10_apart l D a cI cZ F.2.2 s_49 (v6_49 / 12) x2) kb_X10_apart kt_X10_apart km_X10_99 ⟨Nat.le_of_ble_eq_true rfl, Nat.le_of_ble_eq_true rfl, rfl, rfl⟩ hl.1 rfl (Nat.le_of_ble_eq_true rfl) ⟨Nat.zero_le _, Nat.zero_le _⟩ dX10_hill_96 (fun H locs hI => ?_)
              exact J99 _ _ _ _ h hI (lv_sub hl [0, 1, 2, 3, 4, 5, 6] rfl)
            · have h := (if_neg c_75).symm.trans h
              refine lv_iload hx hb dX10_hill_78 (lv_at hl 6 rfl) ?_
              refine lv_bipush (v := 12) hx hb dX10_hill_80 (by decide) ?_
              refine lv_irem hx hb dX10_hill_82 (by decide) ?_
              refine lv_iload_n hx hb dX10_hill_83 rfl (lv_at hl 1 rfl) ?_
              refine g_callSi (E' := mE a cI cZ s_49) (As := [.int (v6_49 - v6_49 / 12 * 12), .int x1]) (rest := []) F hI (c_X10_apart l D a cI cZ F.2.2 s_49 (v6_49 - v6_49 / 12 * 12) x1) kb_X10_apart kt_X10_apart km_X10_99 ⟨Nat.le_of_ble_eq_true rfl, Nat.le_of_ble_eq_true rfl, rfl, rfl⟩ hl.1 rfl (Nat.le_of_ble_eq_true rfl) ⟨Nat.zero_le _, Nat.zero_le _⟩ dX10_hill_84 (fun H locs hI => ?_)
              refine lv_goto (tgt := 99) hx hb dX10_hill_87 (by decide) ?_
              exact J99 _ _ _ _ h hI (lv_sub hl [0, 1, 2, 3, 4, 5, 6] rfl)
      exact L49 _ _ _ _ _ _ _ h hI (lv_sub hl [2, 3, 4, 5, 6, 1, 0] rfl)
    · have h := (if_pos c_38).symm.trans h
      refine lv_iconst (v := 0) hx hb dX10_hill_41 (by decide) ?_
      have h := Option.some.inj h
      subst h
      exact hq _ _ _ _ hI dX10_hill_42
  obtain ⟨j34, hj34, h⟩ := gJoin0_in h
  have J34 : ∀ (H : Heap) (locs : List Loc) (ls : Array Slot), j34  = some out → g_S 21 D a (mE a cI cZ σ) s.heap H locs → lv_has ls 9 [(0, .ref (a 0)), (1, .int x1), (2, .int x2), (3, .int x3), (4, .int x4)] → W p l e rmX10_hill s m args below meth c H locs 0 0 Q (F0 m 34 ls [.int (f_X10_isCell σ x1 x2), .ref (a 0)]) := by
    intro  H locs ls h hI hl
    rw [hj34] at h
    refine lv_iconst (v := 0) hx hb dX10_hill_34 (by decide) ?_
    exact J35 _ _ _ _ h hI (lv_sub hl [0, 1, 2, 3, 4] rfl)
  refine lv_if_eq (tgt := 34) hx hb dX10_hill_15 (by decide) (fun c_15 => ?_) (fun c_15 => ?_)
  · have h := (if_pos c_15).symm.trans h
    exact J34 _ _ _ h hI (lv_sub hl [0, 1, 2, 3, 4] rfl)
  · have h := (if_neg c_15).symm.trans h
    refine lv_iload hx hb dX10_hill_18 (lv_at hl 4 rfl) ?_
    refine lv_iconst (v := 1) hx hb dX10_hill_20 (by decide) ?_
    refine lv_sipush (v := 255) hx hb dX10_hill_21 (by decide) ?_
    refine g_callSi (E' := mE a cI cZ σ) (As := [.int x4, .int 1, .int 255]) (rest := [.int (f_X10_isCell σ x1 x2), .ref (a 0)]) F hI (c_X10_in l D a cI cZ F.2.2 σ x4 1 255) kb_X10_in kt_X10_in km_X10_81 ⟨Nat.le_of_ble_eq_true rfl, Nat.le_of_ble_eq_true rfl, rfl, rfl⟩ hl.1 rfl (Nat.le_of_ble_eq_true rfl) ⟨Nat.zero_le _, Nat.zero_le _⟩ dX10_hill_24 (fun H locs hI => ?_)
    refine lv_if_eq (tgt := 34) hx hb dX10_hill_27 (by decide) (fun c_27 => ?_) (fun c_27 => ?_)
    · have h := (if_pos c_27).symm.trans h
      exact J34 _ _ _ h hI (lv_sub hl [0, 1, 2, 3, 4] rfl)
    · have h := (if_neg c_27).symm.trans h
      refine lv_iconst (v := 1) hx hb dX10_hill_30 (by decide) ?_
      refine lv_goto (tgt := 35) hx hb dX10_hill_31 (by decide) ?_
      exact J35 _ _ _ _ h hI (lv_sub hl [0, 1, 2, 3, 4] rfl)
/-- SpurlineModel.setGround(IIIII)I -/
def f_X10_setGround (N : Nat) (σ : gSt) (x1 x2 x3 x4 x5 : Int32) : Option (Int32 × gSt) :=
  gJoin1 (fun (w0_25 : Int32) =>
      gJoin1 (fun (w0_51 : Int32) =>
          if (f_X10_asked_ σ w0_25 w0_51).1 = 0 then
            some (0, (f_X10_asked_ σ w0_25 w0_51).2)
          else
            gLoop3 (fun self65 (v6_65 : Int32) (v7_65 : Int32) (s_65 : gSt) =>
              if 144 ≤ v7_65 then
                some (v6_65, s_65)
              else
                gJoin2 (fun (v6_131 : Int32) (s_131 : gSt) =>
                    self65 v6_131 (v7_65 + 1) s_131) (fun j131 =>
                  if f_X10_in (v7_65 - v7_65 / 12 * 12) x1 x3 = 0 then
                    j131 v6_65 s_65
                  else
                    if f_X10_in (v7_65 / 12) x2 x4 = 0 then
                      j131 v6_65 s_65
                    else
                      if v7_65 < 0 ∨ 144 ≤ v7_65.toNatClampNeg then none else
                      gJoin1 (fun (w0_119 : Int32) =>
                          if v7_65 < 0 ∨ 144 ≤ v7_65.toNatClampNeg then none else
                          j131 (v6_65 + w0_119) (g_pa s_65 1 v7_65 x5)) (fun j119 =>
                        if g_ga s_65 1 v7_65 = x5 then
                          j119 0
                        else
                          j119 1))) N 0 0 ((f_X10_asked_ σ w0_25 w0_51).2)) (fun j51 =>
      gJoin0 (
          j51 0) (fun j50 =>
        if x3 < x1 then
          j50
        else
          if x4 < x2 then
            j50
          else
            if f_X10_in x5 0 4 = 0 then
              j50
            else
              j51 1))) (fun j25 =>
  gJoin0 (
      j25 0) (fun j24 =>
    if f_X10_isCell σ x1 x2 = 0 then
      j24
    else
      if f_X10_isCell σ x3 x4 = 0 then
        j24
      else
        j25 1))
abbrev rmX10_setGround : Room := { frames := 2, cells := 0, slots := 0, locals := 44 }
theorem kb_X10_setGround : g_CB yX10_setGround cX10_setGround 8 (some .int) 5 := ⟨kc_X10_setGround, kn_X10, by decide +kernel⟩
set_option maxRecDepth 100000 in
set_option maxHeartbeats 4000000 in
theorem c_X10_setGround (l : Launch) (D : va_G) (a : Nat → Nat) (cI cZ : ClassId) (hj : g_Inj 21 a) (N : Nat) (σ : gSt) (x1 x2 x3 x4 x5 : Int32) (out : Int32 × gSt) (hh : f_X10_setGround N σ x1 x2 x3 x4 x5 = some out) : Met l yX10_setGround (Cond.code yX10_setGround cX10_setGround 8 (some .int) :: gW) rmX10_setGround (g_Pc 21 D a (mE a cI cZ σ) [(cI, .int), (cZ, .boolean)] [.ref (a 0), .int x1, .int x2, .int x3, .int x4, .int x5]) (g_Qi 21 D a (mE a cI cZ out.2) out.1) 0 0 (g_Own 21 a) := by
  refine g_meti (by decide) hj (Nat.le_of_ble_eq_true rfl) ?_
  intro p e s m args below meth c Q ls F hl hI hq
  have hx := F.1.1
  have hb := F.1.2.1
  have hl : lv_has ls 8 [(0, .ref (a 0)), (1, .int x1), (2, .int x2), (3, .int x3), (4, .int x4), (5, .int x5)] := hl
  have h := hh
  unfold f_X10_setGround at h
  refine lv_aload_n hx hb dX10_setGround_0 rfl (lv_at hl 0 rfl) ?_
  refine lv_aload_n hx hb dX10_setGround_1 rfl (lv_at hl 0 rfl) ?_
  refine lv_iload_n hx hb dX10_setGround_2 rfl (lv_at hl 1 rfl) ?_
  refine lv_iload_n hx hb dX10_setGround_3 rfl (lv_at hl 2 rfl) ?_
  refine g_callVi (E' := mE a cI cZ σ) (k0 := 0) (As := [.int x1, .int x2]) (rest := [.ref (a 0)]) F hI (c_X10_isCell l D a cI cZ F.2.2 σ x1 x2) kb_X10_isCell ki_X10_isCell ks_X10_isCell km_X10_91 ⟨Nat.le_of_ble_eq_true rfl, Nat.le_of_ble_eq_true rfl, rfl, rfl⟩ (by decide) mE_0 rfl hl.1 rfl (Nat.le_of_ble_eq_true rfl) ⟨Nat.zero_le _, Nat.zero_le _⟩ dX10_setGround_4 (fun H locs hI => ?_)
  obtain ⟨j25, hj25, h⟩ := gJoin1_in h
  have J25 : ∀ (w0_25 : Int32) (H : Heap) (locs : List Loc) (ls : Array Slot), j25 w0_25 = some out → g_S 21 D a (mE a cI cZ σ) s.heap H locs → lv_has ls 8 [(0, .ref (a 0)), (1, .int x1), (2, .int x2), (3, .int x3), (4, .int x4), (5, .int x5)] → W p l e rmX10_setGround s m args below meth c H locs 0 0 Q (F0 m 25 ls [.int w0_25, .ref (a 0)]) := by
    intro w0_25 H locs ls h hI hl
    rw [hj25] at h
    refine lv_iload_n hx hb dX10_setGround_25 rfl (lv_at hl 3 rfl) ?_
    refine lv_iload_n hx hb dX10_setGround_26 rfl (lv_at hl 1 rfl) ?_
    obtain ⟨j51, hj51, h⟩ := gJoin1_in h
    have J51 : ∀ (w0_51 : Int32) (H : Heap) (locs : List Loc) (ls : Array Slot), j51 w0_51 = some out → g_S 21 D a (mE a cI cZ σ) s.heap H locs → lv_has ls 8 [(0, .ref (a 0)), (1, .int x1), (2, .int x2), (3, .int x3), (4, .int x4), (5, .int x5)] → W p l e rmX10_setGround s m args below meth c H locs 0 0 Q (F0 m 51 ls [.int w0_51, .int w0_25, .ref (a 0)]) := by
      intro w0_51 H locs ls h hI hl
      rw [hj51] at h
      refine g_callVi (E' := mE a cI cZ ((f_X10_asked_ σ w0_25 w0_51).2)) (k0 := 0) (As := [.int w0_25, .int w0_51]) (rest := []) F hI (c_X10_asked_ l D a cI cZ F.2.2 σ w0_25 w0_51) kb_X10_asked_ ki_X10_asked_ ks_X10_asked_ km_X10_95 ⟨Nat.le_of_ble_eq_true rfl, Nat.le_of_ble_eq_true rfl, rfl, rfl⟩ (by decide) mE_0 rfl hl.1 rfl (Nat.le_of_ble_eq_true rfl) ⟨Nat.zero_le _, Nat.zero_le _⟩ dX10_setGround_51 (fun H locs hI => ?_)
      refine lv_if_ne (tgt := 59) hx hb dX10_setGround_54 (by decide) (fun c_54 => ?_) (fun c_54 => ?_)
      · have h := (if_neg c_54).symm.trans h
        refine lv_iconst (v := 0) hx hb dX10_setGround_59 (by decide) ?_
        refine lv_istore (lv' := [(6, .int 0), (0, .ref (a 0)), (1, .int x1), (2, .int x2), (3, .int x3), (4, .int x4), (5, .int x5)]) hx hb dX10_setGround_60 hl (by decide) rfl (fun ls hl => ?_)
        refine lv_iconst (v := 0) hx hb dX10_setGround_62 (by decide) ?_
        refine lv_istore (lv' := [(7, .int 0), (6, .int 0), (0, .ref (a 0)), (1, .int x1), (2, .int x2), (3, .int x3), (4, .int x4), (5, .int x5)]) hx hb dX10_setGround_63 hl (by decide) rfl (fun ls hl => ?_)
        obtain ⟨lp65, hz65, hs65, h⟩ := gLoop3_in h
        have L65 : ∀ (n : Nat) (v6_65 : Int32) (v7_65 : Int32) (s_65 : gSt) (H : Heap) (locs : List Loc) (ls : Array Slot), lp65 n v6_65 v7_65 s_65 = some out → g_S 21 D a (mE a cI cZ s_65) s.heap H locs → lv_has ls 8 [(0, .ref (a 0)), (1, .int x1), (2, .int x2), (3, .int x3), (4, .int x4), (5, .int x5), (6, .int v6_65), (7, .int v7_65)] → W p l e rmX10_setGround s m args below meth c H locs 0 0 Q (F0 m 65 ls []) := by
          intro n
          induction n with
          | zero => intro v6_65 v7_65 s_65 H locs ls h; rw [hz65] at h; cases h
          | succ n ih65 =>
            intro v6_65 v7_65 s_65 H locs ls h hI hl
            rw [hs65] at h
            refine lv_iload hx hb dX10_setGround_65 (lv_at hl 7 rfl) ?_
            refine lv_sipush (v := 144) hx hb dX10_setGround_67 (by decide) ?_
            refine lv_icmp_ge (tgt := 137) hx hb dX10_setGround_70 (by decide) (fun c_70 => ?_) (fun c_70 => ?_)
            · have h := (if_pos c_70).symm.trans h
              refine lv_iload hx hb dX10_setGround_137 (lv_at hl 6 rfl) ?_
              have h := Option.some.inj h
              subst h
              exact hq _ _ _ _ hI dX10_setGround_139
            · have h := (if_neg c_70).symm.trans h
              refine lv_iload hx hb dX10_setGround_73 (lv_at hl 7 rfl) ?_
              refine lv_bipush (v := 12) hx hb dX10_setGround_75 (by decide) ?_
              refine lv_irem hx hb dX10_setGround_77 (by decide) ?_
              refine lv_iload_n hx hb dX10_setGround_78 rfl (lv_at hl 1 rfl) ?_
              refine lv_iload_n hx hb dX10_setGround_79 rfl (lv_at hl 3 rfl) ?_
              refine g_callSi (E' := mE a cI cZ s_65) (As := [.int (v7_65 - v7_65 / 12 * 12), .int x1, .int x3]) (rest := []) F hI (c_X10_in l D a cI cZ F.2.2 s_65 (v7_65 - v7_65 / 12 * 12) x1 x3) kb_X10_in kt_X10_in km_X10_81 ⟨Nat.le_of_ble_eq_true rfl, Nat.le_of_ble_eq_true rfl, rfl, rfl⟩ hl.1 rfl (Nat.le_of_ble_eq_true rfl) ⟨Nat.zero_le _, Nat.zero_le _⟩ dX10_setGround_80 (fun H locs hI => ?_)
              obtain ⟨j131, hj131, h⟩ := gJoin2_in h
              have J131 : ∀ (v6_131 : Int32) (s_131 : gSt) (H : Heap) (locs : List Loc) (ls : Array Slot), j131 v6_131 s_131 = some out → g_S 21 D a (mE a cI cZ s_131) s.heap H locs → lv_has ls 8 [(0, .ref (a 0)), (1, .int x1), (2, .int x2), (3, .int x3), (4, .int x4), (5, .int x5), (6, .int v6_131), (7, .int v7_65)] → W p l e rmX10_setGround s m args below meth c H locs 0 0 Q (F0 m 131 ls []) := by
                intro v6_131 s_131 H locs ls h hI hl
                rw [hj131] at h
                refine lv_iinc (v := v7_65 + 1) (lv' := [(7, .int (v7_65 + 1)), (0, .ref (a 0)), (1, .int x1), (2, .int x2), (3, .int x3), (4, .int x4), (5, .int x5), (6, .int v6_131)]) hx hb dX10_setGround_131 hl (k := 7) rfl rfl (by decide) rfl (fun ls hl => ?_)
                refine lv_goto (tgt := 65) hx hb dX10_setGround_134 (by decide) ?_
                exact ih65 _ _ _ _ _ _ h hI (lv_sub hl [1, 2, 3, 4, 5, 6, 7, 0] rfl)
              refine lv_if_eq (tgt := 131) hx hb dX10_setGround_83 (by decide) (fun c_83 => ?_) (fun c_83 => ?_)
              · have h := (if_pos c_83).symm.trans h
                exact J131 _ _ _ _ _ h hI (lv_sub hl [0, 1, 2, 3, 4, 5, 6, 7] rfl)
              · have h := (if_neg c_83).symm.trans h
                refine lv_iload hx hb dX10_setGround_86 (lv_at hl 7 rfl) ?_
                refine lv_bipush (v := 12) hx hb dX10_setGround_88 (by decide) ?_
                refine lv_idiv hx hb dX10_setGround_90 (by decide) ?_
                refine lv_iload_n hx hb dX10_setGround_91 rfl (lv_at hl 2 rfl) ?_
                refine lv_iload hx hb dX10_setGround_92 (lv_at hl 4 rfl) ?_
                refine g_callSi (E' := mE a cI cZ s_65) (As := [.int (v7_65 / 12), .int x2, .int x4]) (rest := []) F hI (c_X10_in l D a cI cZ F.2.2 s_65 (v7_65 / 12) x2 x4) kb_X10_in kt_X10_in km_X10_81 ⟨Nat.le_of_ble_eq_true rfl, Nat.le_of_ble_eq_true rfl, rfl, rfl⟩ hl.1 rfl (Nat.le_of_ble_eq_true rfl) ⟨Nat.zero_le _, Nat.zero_le _⟩ dX10_setGround_94 (fun H locs hI => ?_)
                refine lv_if_eq (tgt := 131) hx hb dX10_setGround_97 (by decide) (fun c_97 => ?_) (fun c_97 => ?_)
                · have h := (if_pos c_97).symm.trans h
                  exact J131 _ _ _ _ _ h hI (lv_sub hl [0, 1, 2, 3, 4, 5, 6, 7] rfl)
                · have h := (if_neg c_97).symm.trans h
                  refine lv_iload hx hb dX10_setGround_100 (lv_at hl 6 rfl) ?_
                  refine lv_aload_n hx hb dX10_setGround_102 rfl (lv_at hl 0 rfl) ?_
                  refine g_get F hI (by decide) mE_0 rfl ku_X10 3 (by decide) kf_X10_13 rfl dX10_setGround_103 ?_
                  refine lv_iload hx hb dX10_setGround_106 (lv_at hl 7 rfl) ?_
                  obtain ⟨g_108, h⟩ := g_guard h
                  refine g_iald F hI (by decide) mE_a1 0 rfl g_108 dX10_setGround_108 ?_
                  refine lv_iload hx hb dX10_setGround_109 (lv_at hl 5 rfl) ?_
                  obtain ⟨j119, hj119, h⟩ := gJoin1_in h
                  have J119 : ∀ (w0_119 : Int32) (H : Heap) (locs : List Loc) (ls : Array Slot), j119 w0_119 = some out → g_S 21 D a (mE a cI cZ s_65) s.heap H locs → lv_has ls 8 [(0, .ref (a 0)), (1, .int x1), (2, .int x2), (3, .int x3), (4, .int x4), (5, .int x5), (7, .int v7_65)] → W p l e rmX10_setGround s m args below meth c H locs 0 0 Q (F0 m 119 ls [.int w0_119, .int v6_65]) := by
                    intro w0_119 H locs ls h hI hl
                    rw [hj119] at h
                    refine lv_iadd hx hb dX10_setGround_119 ?_
                    refine lv_istore (lv' := [(6, .int (v6_65 + w0_119)), (0, .ref (a 0)), (1, .int x1), (2, .int x2), (3, .int x3), (4, .int x4), (5, .int x5), (7, .int v7_65)]) hx hb dX10_setGround_120 hl (by decide) rfl (fun ls hl => ?_)
                    refine lv_aload_n hx hb dX10_setGround_122 rfl (lv_at hl 1 rfl) ?_
                    refine g_get F hI (by decide) mE_0 rfl ku_X10 3 (by decide) kf_X10_13 rfl dX10_setGround_123 ?_
                    refine lv_iload hx hb dX10_setGround_126 (lv_at hl 7 rfl) ?_
                    refine lv_iload hx hb dX10_setGround_128 (lv_at hl 6 rfl) ?_
                    obtain ⟨g_130, h⟩ := g_guard h
                    refine g_iast (E' := mE a cI cZ (g_pa s_65 1 v7_65 x5)) F hI (by decide) mE_a1 0 rfl g_130 rfl mE_sa dX10_setGround_130 (fun H locs hI => ?_)
                    exact J131 _ _ _ _ _ h hI (lv_sub hl [1, 2, 3, 4, 5, 6, 0, 7] rfl)
                  refine lv_icmp_ne (tgt := 118) hx hb dX10_setGround_111 (by decide) (fun c_111 => ?_) (fun c_111 => ?_)
                  · have h := (if_neg c_111).symm.trans h
                    refine lv_iconst (v := 1) hx hb dX10_setGround_118 (by decide) ?_
                    exact J119 _ _ _ _ h hI (lv_sub hl [0, 1, 2, 3, 4, 5, 7] rfl)
                  · have h := (if_pos c_111).symm.trans h
                    refine lv_iconst (v := 0) hx hb dX10_setGround_114 (by decide) ?_
                    refine lv_goto (tgt := 119) hx hb dX10_setGround_115 (by decide) ?_
                    exact J119 _ _ _ _ h hI (lv_sub hl [0, 1, 2, 3, 4, 5, 7] rfl)
        exact L65 _ _ _ _ _ _ _ h hI (lv_sub hl [2, 3, 4, 5, 6, 7, 1, 0] rfl)
      · have h := (if_pos c_54).symm.trans h
        refine lv_iconst (v := 0) hx hb dX10_setGround_57 (by decide) ?_
        have h := Option.some.inj h
        subst h
        exact hq _ _ _ _ hI dX10_setGround_58
    obtain ⟨j50, hj50, h⟩ := gJoin0_in h
    have J50 : ∀ (H : Heap) (locs : List Loc) (ls : Array Slot), j50  = some out → g_S 21 D a (mE a cI cZ σ) s.heap H locs → lv_has ls 8 [(0, .ref (a 0)), (1, .int x1), (2, .int x2), (3, .int x3), (4, .int x4), (5, .int x5)] → W p l e rmX10_setGround s m args below meth c H locs 0 0 Q (F0 m 50 ls [.int w0_25, .ref (a 0)]) := by
      intro  H locs ls h hI hl
      rw [hj50] at h
      refine lv_iconst (v := 0) hx hb dX10_setGround_50 (by decide) ?_
      exact J51 _ _ _ _ h hI (lv_sub hl [0, 1, 2, 3, 4, 5] rfl)
    refine lv_icmp_lt (tgt := 50) hx hb dX10_setGround_27 (by decide) (fun c_27 => ?_) (fun c_27 => ?_)
    · have h := (if_pos c_27).symm.trans h
      exact J50 _ _ _ h hI (lv_sub hl [0, 1, 2, 3, 4, 5] rfl)
    · have h := (if_neg c_27).symm.trans h
      refine lv_iload hx hb dX10_setGround_30 (lv_at hl 4 rfl) ?_
      refine lv_iload_n hx hb dX10_setGround_32 rfl (lv_at hl 2 rfl) ?_
      refine lv_icmp_lt (tgt := 50) hx hb dX10_setGround_33 (by decide) (fun c_33 => ?_) (fun c_33 => ?_)
      · have h := (if_pos c_33).symm.trans h
        exact J50 _ _ _ h hI (lv_sub hl [0, 1, 2, 3, 4, 5] rfl)
      · have h := (if_neg c_33).symm.trans h
        refine lv_iload hx hb dX10_setGround_36 (lv_at hl 5 rfl) ?_
        refine lv_iconst (v := 0) hx hb dX10_setGround_38 (by decide) ?_
        refine lv_iconst (v := 4) hx hb dX10_setGround_39 (by decide) ?_
        refine g_callSi (E' := mE a cI cZ σ) (As := [.int x5, .int 0, .int 4]) (rest := [.int w0_25, .ref (a 0)]) F hI (c_X10_in l D a cI cZ F.2.2 σ x5 0 4) kb_X10_in kt_X10_in km_X10_81 ⟨Nat.le_of_ble_eq_true rfl, Nat.le_of_ble_eq_true rfl, rfl, rfl⟩ hl.1 rfl (Nat.le_of_ble_eq_true rfl) ⟨Nat.zero_le _, Nat.zero_le _⟩ dX10_setGround_40 (fun H locs hI => ?_)
        refine lv_if_eq (tgt := 50) hx hb dX10_setGround_43 (by decide) (fun c_43 => ?_) (fun c_43 => ?_)
        · have h := (if_pos c_43).symm.trans h
          exact J50 _ _ _ h hI (lv_sub hl [0, 1, 2, 3, 4, 5] rfl)
        · have h := (if_neg c_43).symm.trans h
          refine lv_iconst (v := 1) hx hb dX10_setGround_46 (by decide) ?_
          refine lv_goto (tgt := 51) hx hb dX10_setGround_47 (by decide) ?_
          exact J51 _ _ _ _ h hI (lv_sub hl [0, 1, 2, 3, 4, 5] rfl)
  obtain ⟨j24, hj24, h⟩ := gJoin0_in h
  have J24 : ∀ (H : Heap) (locs : List Loc) (ls : Array Slot), j24  = some out → g_S 21 D a (mE a cI cZ σ) s.heap H locs → lv_has ls 8 [(0, .ref (a 0)), (1, .int x1), (2, .int x2), (3, .int x3), (4, .int x4), (5, .int x5)] → W p l e rmX10_setGround s m args below meth c H locs 0 0 Q (F0 m 24 ls [.ref (a 0)]) := by
    intro  H locs ls h hI hl
    rw [hj24] at h
    refine lv_iconst (v := 0) hx hb dX10_setGround_24 (by decide) ?_
    exact J25 _ _ _ _ h hI (lv_sub hl [0, 1, 2, 3, 4, 5] rfl)
  refine lv_if_eq (tgt := 24) hx hb dX10_setGround_7 (by decide) (fun c_7 => ?_) (fun c_7 => ?_)
  · have h := (if_pos c_7).symm.trans h
    exact J24 _ _ _ h hI (lv_sub hl [0, 1, 2, 3, 4, 5] rfl)
  · have h := (if_neg c_7).symm.trans h
    refine lv_aload_n hx hb dX10_setGround_10 rfl (lv_at hl 0 rfl) ?_
    refine lv_iload_n hx hb dX10_setGround_11 rfl (lv_at hl 3 rfl) ?_
    refine lv_iload hx hb dX10_setGround_12 (lv_at hl 4 rfl) ?_
    refine g_callVi (E' := mE a cI cZ σ) (k0 := 0) (As := [.int x3, .int x4]) (rest := [.ref (a 0)]) F hI (c_X10_isCell l D a cI cZ F.2.2 σ x3 x4) kb_X10_isCell ki_X10_isCell ks_X10_isCell km_X10_91 ⟨Nat.le_of_ble_eq_true rfl, Nat.le_of_ble_eq_true rfl, rfl, rfl⟩ (by decide) mE_0 rfl hl.1 rfl (Nat.le_of_ble_eq_true rfl) ⟨Nat.zero_le _, Nat.zero_le _⟩ dX10_setGround_14 (fun H locs hI => ?_)
    refine lv_if_eq (tgt := 24) hx hb dX10_setGround_17 (by decide) (fun c_17 => ?_) (fun c_17 => ?_)
    · have h := (if_pos c_17).symm.trans h
      exact J24 _ _ _ h hI (lv_sub hl [0, 1, 2, 3, 4, 5] rfl)
    · have h := (if_neg c_17).symm.trans h
      refine lv_iconst (v := 1) hx hb dX10_setGround_20 (by decide) ?_
      refine lv_goto (tgt := 25) hx hb dX10_setGround_21 (by decide) ?_
      exact J25 _ _ _ _ h hI (lv_sub hl [0, 1, 2, 3, 4, 5] rfl)
/-- SpurlineModel.cell(II)I -/
def f_X10_cell (N : Nat) (σ : gSt) (x1 x2 : Int32) : Option (Int32 × gSt) :=
  if (f_X10_asked σ (f_X10_isCell σ x1 x2)).1 = 0 then
    some (0, (f_X10_asked σ (f_X10_isCell σ x1 x2)).2)
  else
    if (12 * x2) + x1 < 0 ∨ 144 ≤ ((12 * x2) + x1).toNatClampNeg then none else
    if (12 * x2) + x1 < 0 ∨ 144 ≤ ((12 * x2) + x1).toNatClampNeg then none else
    some ((10 * (g_ga ((f_X10_asked σ (f_X10_isCell σ x1 x2)).2) 0 ((12 * x2) + x1))) + (g_ga ((f_X10_asked σ (f_X10_isCell σ x1 x2)).2) 1 ((12 * x2) + x1)), (f_X10_asked σ (f_X10_isCell σ x1 x2)).2)
abbrev rmX10_cell : Room := { frames := 2, cells := 0, slots := 0, locals := 44 }
theorem kb_X10_cell : g_CB yX10_cell cX10_cell 3 (some .int) 2 := ⟨kc_X10_cell, kn_X10, by decide +kernel⟩
set_option maxRecDepth 100000 in
set_option maxHeartbeats 4000000 in
theorem c_X10_cell (l : Launch) (D : va_G) (a : Nat → Nat) (cI cZ : ClassId) (hj : g_Inj 21 a) (N : Nat) (σ : gSt) (x1 x2 : Int32) (out : Int32 × gSt) (hh : f_X10_cell N σ x1 x2 = some out) : Met l yX10_cell (Cond.code yX10_cell cX10_cell 3 (some .int) :: gW) rmX10_cell (g_Pc 21 D a (mE a cI cZ σ) [(cI, .int), (cZ, .boolean)] [.ref (a 0), .int x1, .int x2]) (g_Qi 21 D a (mE a cI cZ out.2) out.1) 0 0 (g_Own 21 a) := by
  refine g_meti (by decide) hj (Nat.le_of_ble_eq_true rfl) ?_
  intro p e s m args below meth c Q ls F hl hI hq
  have hx := F.1.1
  have hb := F.1.2.1
  have hl : lv_has ls 3 [(0, .ref (a 0)), (1, .int x1), (2, .int x2)] := hl
  have h := hh
  unfold f_X10_cell at h
  refine lv_aload_n hx hb dX10_cell_0 rfl (lv_at hl 0 rfl) ?_
  refine lv_aload_n hx hb dX10_cell_1 rfl (lv_at hl 0 rfl) ?_
  refine lv_iload_n hx hb dX10_cell_2 rfl (lv_at hl 1 rfl) ?_
  refine lv_iload_n hx hb dX10_cell_3 rfl (lv_at hl 2 rfl) ?_
  refine g_callVi (E' := mE a cI cZ σ) (k0 := 0) (As := [.int x1, .int x2]) (rest := [.ref (a 0)]) F hI (c_X10_isCell l D a cI cZ F.2.2 σ x1 x2) kb_X10_isCell ki_X10_isCell ks_X10_isCell km_X10_91 ⟨Nat.le_of_ble_eq_true rfl, Nat.le_of_ble_eq_true rfl, rfl, rfl⟩ (by decide) mE_0 rfl hl.1 rfl (Nat.le_of_ble_eq_true rfl) ⟨Nat.zero_le _, Nat.zero_le _⟩ dX10_cell_4 (fun H locs hI => ?_)
  refine g_callVi (E' := mE a cI cZ ((f_X10_asked σ (f_X10_isCell σ x1 x2)).2)) (k0 := 0) (As := [.int (f_X10_isCell σ x1 x2)]) (rest := []) F hI (c_X10_asked l D a cI cZ F.2.2 σ (f_X10_isCell σ x1 x2)) kb_X10_asked ki_X10_asked ks_X10_asked km_X10_103 ⟨Nat.le_of_ble_eq_true rfl, Nat.le_of_ble_eq_true rfl, rfl, rfl⟩ (by decide) mE_0 rfl hl.1 rfl (Nat.le_of_ble_eq_true rfl) ⟨Nat.zero_le _, Nat.zero_le _⟩ dX10_cell_7 (fun H locs hI => ?_)
  refine lv_if_eq (tgt := 42) hx hb dX10_cell_10 (by decide) (fun c_10 => ?_) (fun c_10 => ?_)
  · have h := (if_pos c_10).symm.trans h
    refine lv_iconst (v := 0) hx hb dX10_cell_42 (by decide) ?_
    have h := Option.some.inj h
    subst h
    exact hq _ _ _ _ hI dX10_cell_43
  · have h := (if_neg c_10).symm.trans h
    refine lv_bipush (v := 10) hx hb dX10_cell_13 (by decide) ?_
    refine lv_aload_n hx hb dX10_cell_15 rfl (lv_at hl 0 rfl) ?_
    refine g_get F hI (by decide) mE_0 rfl ku_X10 2 (by decide) kf_X10_7 rfl dX10_cell_16 ?_
    refine lv_bipush (v := 12) hx hb dX10_cell_19 (by decide) ?_
    refine lv_iload_n hx hb dX10_cell_21 rfl (lv_at hl 2 rfl) ?_
    refine lv_imul hx hb dX10_cell_22 ?_
    refine lv_iload_n hx hb dX10_cell_23 rfl (lv_at hl 1 rfl) ?_
    refine lv_iadd hx hb dX10_cell_24 ?_
    obtain ⟨g_25, h⟩ := g_guard h
    refine g_iald F hI (by decide) mE_a0 0 rfl g_25 dX10_cell_25 ?_
    refine lv_imul hx hb dX10_cell_26 ?_
    refine lv_aload_n hx hb dX10_cell_27 rfl (lv_at hl 0 rfl) ?_
    refine g_get F hI (by decide) mE_0 rfl ku_X10 3 (by decide) kf_X10_13 rfl dX10_cell_28 ?_
    refine lv_bipush (v := 12) hx hb dX10_cell_31 (by decide) ?_
    refine lv_iload_n hx hb dX10_cell_33 rfl (lv_at hl 2 rfl) ?_
    refine lv_imul hx hb dX10_cell_34 ?_
    refine lv_iload_n hx hb dX10_cell_35 rfl (lv_at hl 1 rfl) ?_
    refine lv_iadd hx hb dX10_cell_36 ?_
    obtain ⟨g_37, h⟩ := g_guard h
    refine g_iald F hI (by decide) mE_a1 0 rfl g_37 dX10_cell_37 ?_
    refine lv_iadd hx hb dX10_cell_38 ?_
    refine lv_goto (tgt := 43) hx hb dX10_cell_39 (by decide) ?_
    have h := Option.some.inj h
    subst h
    exact hq _ _ _ _ hI dX10_cell_43
/-- SpurlineModel.isGap(II)Z -/
def f_X10_isGap (N : Nat) (σ : gSt) (x1 x2 : Int32) : Option Int32 :=
  gJoin1 (fun (w0_23 : Int32) =>
      gJoin1 (fun (w0_81 : Int32) =>
          if w0_81 = 0 then
            some 0
          else
            if x1 - x1 / 144 * 144 < 0 ∨ 144 ≤ (x1 - x1 / 144 * 144).toNatClampNeg then none else
            gJoin1 (fun (w0_103 : Int32) =>
                if w0_23 < 0 ∨ 144 ≤ w0_23.toNatClampNeg then none else
                gJoin1 (fun (w0_119 : Int32) =>
                    if w0_103 = w0_119 then
                      some 0
                    else
                      some 1) (fun j119 =>
                  if g_ga σ 0 w0_23 < x2 then
                    j119 0
                  else
                    j119 1)) (fun j103 =>
              if g_ga σ 0 (x1 - x1 / 144 * 144) < x2 then
                j103 0
              else
                j103 1)) (fun j81 =>
      gJoin0 (
          j81 0) (fun j80 =>
        if f_X10_isCell σ ((x1 - x1 / 144 * 144) - (x1 - x1 / 144 * 144) / 12 * 12) ((x1 - x1 / 144 * 144) / 12) = 0 then
          j80
        else
          gJoin0 (
              j81 1) (fun j76 =>
            if 144 ≤ x1 then
              if σ.2 1 ≤ ((x1 - x1 / 144 * 144) / 12) + 1 then
                j80
              else
                j76
            else
              if σ.2 0 ≤ ((x1 - x1 / 144 * 144) - (x1 - x1 / 144 * 144) / 12 * 12) + 1 then
                j80
              else
                j76)))) (fun j23 =>
    if 144 ≤ x1 then
      j23 ((x1 - x1 / 144 * 144) + 12)
    else
      j23 ((x1 - x1 / 144 * 144) + 1))
abbrev rmX10_isGap : Room := { frames := 2, cells := 0, slots := 0, locals := 44 }
theorem kb_X10_isGap : g_CB yX10_isGap cX10_isGap 6 (some .boolean) 2 := ⟨kc_X10_isGap, kn_X10, by decide +kernel⟩
set_option maxRecDepth 100000 in
set_option maxHeartbeats 4000000 in
theorem c_X10_isGap (l : Launch) (D : va_G) (a : Nat → Nat) (cI cZ : ClassId) (hj : g_Inj 21 a) (N : Nat) (σ : gSt) (x1 x2 : Int32) (out : Int32) (hh : f_X10_isGap N σ x1 x2 = some out) : Met l yX10_isGap (Cond.code yX10_isGap cX10_isGap 6 (some .boolean) :: gW) rmX10_isGap (g_Pc 21 D a (mE a cI cZ σ) [(cI, .int), (cZ, .boolean)] [.ref (a 0), .int x1, .int x2]) (g_Qi 21 D a (mE a cI cZ σ) out) 0 0 (g_Own 21 a) := by
  refine g_metz (by decide) hj (Nat.le_of_ble_eq_true rfl) ?_
  intro p e s m args below meth c Q ls F hl hI hq
  have hx := F.1.1
  have hb := F.1.2.1
  have hl : lv_has ls 6 [(0, .ref (a 0)), (1, .int x1), (2, .int x2)] := hl
  have h := hh
  unfold f_X10_isGap at h
  refine lv_iload_n hx hb dX10_isGap_0 rfl (lv_at hl 1 rfl) ?_
  refine lv_sipush (v := 144) hx hb dX10_isGap_1 (by decide) ?_
  refine lv_irem hx hb dX10_isGap_4 (by decide) ?_
  refine lv_istore_n (lv' := [(3, .int (x1 - x1 / 144 * 144)), (0, .ref (a 0)), (1, .int x1), (2, .int x2)]) hx hb dX10_isGap_5 rfl hl (by decide) rfl (fun ls hl => ?_)
  refine lv_iload_n hx hb dX10_isGap_6 rfl (lv_at hl 2 rfl) ?_
  refine lv_sipush (v := 144) hx hb dX10_isGap_7 (by decide) ?_
  obtain ⟨j23, hj23, h⟩ := gJoin1_in h
  have J23 : ∀ (w0_23 : Int32) (H : Heap) (locs : List Loc) (ls : Array Slot), j23 w0_23 = some out → g_S 21 D a (mE a cI cZ σ) s.heap H locs → lv_has ls 6 [(0, .ref (a 0)), (1, .int x1), (2, .int x2), (3, .int (x1 - x1 / 144 * 144))] → W p l e rmX10_isGap s m args below meth c H locs 0 0 Q (F0 m 23 ls [.int w0_23]) := by
    intro w0_23 H locs ls h hI hl
    rw [hj23] at h
    refine lv_istore (lv' := [(4, .int w0_23), (0, .ref (a 0)), (1, .int x1), (2, .int x2), (3, .int (x1 - x1 / 144 * 144))]) hx hb dX10_isGap_23 hl (by decide) rfl (fun ls hl => ?_)
    refine lv_aload_n hx hb dX10_isGap_25 rfl (lv_at hl 1 rfl) ?_
    refine lv_iload_n hx hb dX10_isGap_26 rfl (lv_at hl 4 rfl) ?_
    refine lv_bipush (v := 12) hx hb dX10_isGap_27 (by decide) ?_
    refine lv_irem hx hb dX10_isGap_29 (by decide) ?_
    refine lv_iload_n hx hb dX10_isGap_30 rfl (lv_at hl 4 rfl) ?_
    refine lv_bipush (v := 12) hx hb dX10_isGap_31 (by decide) ?_
    refine lv_idiv hx hb dX10_isGap_33 (by decide) ?_
    refine g_callVi (E' := mE a cI cZ σ) (k0 := 0) (As := [.int ((x1 - x1 / 144 * 144) - (x1 - x1 / 144 * 144) / 12 * 12), .int ((x1 - x1 / 144 * 144) / 12)]) (rest := []) F hI (c_X10_isCell l D a cI cZ F.2.2 σ ((x1 - x1 / 144 * 144) - (x1 - x1 / 144 * 144) / 12 * 12) ((x1 - x1 / 144 * 144) / 12)) kb_X10_isCell ki_X10_isCell ks_X10_isCell km_X10_91 ⟨Nat.le_of_ble_eq_true rfl, Nat.le_of_ble_eq_true rfl, rfl, rfl⟩ (by decide) mE_0 rfl hl.1 rfl (Nat.le_of_ble_eq_true rfl) ⟨Nat.zero_le _, Nat.zero_le _⟩ dX10_isGap_34 (fun H locs hI => ?_)
    obtain ⟨j81, hj81, h⟩ := gJoin1_in h
    have J81 : ∀ (w0_81 : Int32) (H : Heap) (locs : List Loc) (ls : Array Slot), j81 w0_81 = some out → g_S 21 D a (mE a cI cZ σ) s.heap H locs → lv_has ls 6 [(0, .ref (a 0)), (2, .int x2), (3, .int (x1 - x1 / 144 * 144)), (4, .int w0_23)] → W p l e rmX10_isGap s m args below meth c H locs 0 0 Q (F0 m 81 ls [.int w0_81]) := by
      intro w0_81 H locs ls h hI hl
      rw [hj81] at h
      refine lv_istore (lv' := [(5, .int w0_81), (0, .ref (a 0)), (2, .int x2), (3, .int (x1 - x1 / 144 * 144)), (4, .int w0_23)]) hx hb dX10_isGap_81 hl (by decide) rfl (fun ls hl => ?_)
      refine lv_iload hx hb dX10_isGap_83 (lv_at hl 0 rfl) ?_
      refine lv_if_eq (tgt := 126) hx hb dX10_isGap_85 (by decide) (fun c_85 => ?_) (fun c_85 => ?_)
      · have h := (if_pos c_85).symm.trans h
        refine lv_iconst (v := 0) hx hb dX10_isGap_126 (by decide) ?_
        have h := Option.some.inj h
        subst h
        exact hq _ _ _ _ _ (show (0 : Int32) &&& 1 = 0 from by decide) hI dX10_isGap_127
      · have h := (if_neg c_85).symm.trans h
        refine lv_aload_n hx hb dX10_isGap_88 rfl (lv_at hl 1 rfl) ?_
        refine g_get F hI (by decide) mE_0 rfl ku_X10 2 (by decide) kf_X10_7 rfl dX10_isGap_89 ?_
        refine lv_iload_n hx hb dX10_isGap_92 rfl (lv_at hl 3 rfl) ?_
        obtain ⟨g_93, h⟩ := g_guard h
        refine g_iald F hI (by decide) mE_a0 0 rfl g_93 dX10_isGap_93 ?_
        refine lv_iload_n hx hb dX10_isGap_94 rfl (lv_at hl 2 rfl) ?_
        obtain ⟨j103, hj103, h⟩ := gJoin1_in h
        have J103 : ∀ (w0_103 : Int32) (H : Heap) (locs : List Loc) (ls : Array Slot), j103 w0_103 = some out → g_S 21 D a (mE a cI cZ σ) s.heap H locs → lv_has ls 6 [(0, .ref (a 0)), (2, .int x2), (4, .int w0_23)] → W p l e rmX10_isGap s m args below meth c H locs 0 0 Q (F0 m 103 ls [.int w0_103]) := by
          intro w0_103 H locs ls h hI hl
          rw [hj103] at h
          refine lv_aload_n hx hb dX10_isGap_103 rfl (lv_at hl 0 rfl) ?_
          refine g_get F hI (by decide) mE_0 rfl ku_X10 2 (by decide) kf_X10_7 rfl dX10_isGap_104 ?_
          refine lv_iload hx hb dX10_isGap_107 (lv_at hl 2 rfl) ?_
          obtain ⟨g_109, h⟩ := g_guard h
          refine g_iald F hI (by decide) mE_a0 0 rfl g_109 dX10_isGap_109 ?_
          refine lv_iload_n hx hb dX10_isGap_110 rfl (lv_at hl 1 rfl) ?_
          obtain ⟨j119, hj119, h⟩ := gJoin1_in h
          have J119 : ∀ (w0_119 : Int32) (H : Heap) (locs : List Loc) (ls : Array Slot), j119 w0_119 = some out → g_S 21 D a (mE a cI cZ σ) s.heap H locs → lv_has ls 6 [] → W p l e rmX10_isGap s m args below meth c H locs 0 0 Q (F0 m 119 ls [.int w0_119, .int w0_103]) := by
            intro w0_119 H locs ls h hI hl
            rw [hj119] at h
            refine lv_icmp_eq (tgt := 126) hx hb dX10_isGap_119 (by decide) (fun c_119 => ?_) (fun c_119 => ?_)
            · have h := (if_pos c_119).symm.trans h
              refine lv_iconst (v := 0) hx hb dX10_isGap_126 (by decide) ?_
              have h := Option.some.inj h
              subst h
              exact hq _ _ _ _ _ (show (0 : Int32) &&& 1 = 0 from by decide) hI dX10_isGap_127
            · have h := (if_neg c_119).symm.trans h
              refine lv_iconst (v := 1) hx hb dX10_isGap_122 (by decide) ?_
              refine lv_goto (tgt := 127) hx hb dX10_isGap_123 (by decide) ?_
              have h := Option.some.inj h
              subst h
              exact hq _ _ _ _ _ (show (1 : Int32) &&& 1 = 1 from by decide) hI dX10_isGap_127
          refine lv_icmp_lt (tgt := 118) hx hb dX10_isGap_111 (by decide) (fun c_111 => ?_) (fun c_111 => ?_)
          · have h := (if_pos c_111).symm.trans h
            refine lv_iconst (v := 0) hx hb dX10_isGap_118 (by decide) ?_
            exact J119 _ _ _ _ h hI (lv_sub hl [] rfl)
          · have h := (if_neg c_111).symm.trans h
            refine lv_iconst (v := 1) hx hb dX10_isGap_114 (by decide) ?_
            refine lv_goto (tgt := 119) hx hb dX10_isGap_115 (by decide) ?_
            exact J119 _ _ _ _ h hI (lv_sub hl [] rfl)
        refine lv_icmp_lt (tgt := 102) hx hb dX10_isGap_95 (by decide) (fun c_95 => ?_) (fun c_95 => ?_)
        · have h := (if_pos c_95).symm.trans h
          refine lv_iconst (v := 0) hx hb dX10_isGap_102 (by decide) ?_
          exact J103 _ _ _ _ h hI (lv_sub hl [1, 2, 4] rfl)
        · have h := (if_neg c_95).symm.trans h
          refine lv_iconst (v := 1) hx hb dX10_isGap_98 (by decide) ?_
          refine lv_goto (tgt := 103) hx hb dX10_isGap_99 (by decide) ?_
          exact J103 _ _ _ _ h hI (lv_sub hl [1, 2, 4] rfl)
    obtain ⟨j80, hj80, h⟩ := gJoin0_in h
    have J80 : ∀ (H : Heap) (locs : List Loc) (ls : Array Slot), j80  = some out → g_S 21 D a (mE a cI cZ σ) s.heap H locs → lv_has ls 6 [(0, .ref (a 0)), (2, .int x2), (3, .int (x1 - x1 / 144 * 144)), (4, .int w0_23)] → W p l e rmX10_isGap s m args below meth c H locs 0 0 Q (F0 m 80 ls []) := by
      intro  H locs ls h hI hl
      rw [hj80] at h
      refine lv_iconst (v := 0) hx hb dX10_isGap_80 (by decide) ?_
      exact J81 _ _ _ _ h hI (lv_sub hl [0, 1, 2, 3] rfl)
    refine lv_if_eq (tgt := 80) hx hb dX10_isGap_37 (by decide) (fun c_37 => ?_) (fun c_37 => ?_)
    · have h := (if_pos c_37).symm.trans h
      exact J80 _ _ _ h hI (lv_sub hl [1, 3, 4, 0] rfl)
    · have h := (if_neg c_37).symm.trans h
      refine lv_iload_n hx hb dX10_isGap_40 rfl (lv_at hl 2 rfl) ?_
      refine lv_sipush (v := 144) hx hb dX10_isGap_41 (by decide) ?_
      obtain ⟨j76, hj76, h⟩ := gJoin0_in h
      have J76 : ∀ (H : Heap) (locs : List Loc) (ls : Array Slot), j76  = some out → g_S 21 D a (mE a cI cZ σ) s.heap H locs → lv_has ls 6 [(0, .ref (a 0)), (2, .int x2), (3, .int (x1 - x1 / 144 * 144)), (4, .int w0_23)] → W p l e rmX10_isGap s m args below meth c H locs 0 0 Q (F0 m 76 ls []) := by
        intro  H locs ls h hI hl
        rw [hj76] at h
        refine lv_iconst (v := 1) hx hb dX10_isGap_76 (by decide) ?_
        refine lv_goto (tgt := 81) hx hb dX10_isGap_77 (by decide) ?_
        exact J81 _ _ _ _ h hI (lv_sub hl [0, 1, 2, 3] rfl)
      refine lv_icmp_ge (tgt := 63) hx hb dX10_isGap_44 (by decide) (fun c_44 => ?_) (fun c_44 => ?_)
      · have h := (if_pos c_44).symm.trans h
        refine lv_iload_n hx hb dX10_isGap_63 rfl (lv_at hl 4 rfl) ?_
        refine lv_bipush (v := 12) hx hb dX10_isGap_64 (by decide) ?_
        refine lv_idiv hx hb dX10_isGap_66 (by decide) ?_
        refine lv_iconst (v := 1) hx hb dX10_isGap_67 (by decide) ?_
        refine lv_iadd hx hb dX10_isGap_68 ?_
        refine lv_aload_n hx hb dX10_isGap_69 rfl (lv_at hl 1 rfl) ?_
        refine g_get F hI (by decide) mE_0 rfl ku_X10 1 (by decide) kf_X10_75 rfl dX10_isGap_70 ?_
        refine lv_icmp_ge (tgt := 80) hx hb dX10_isGap_73 (by decide) (fun c_73 => ?_) (fun c_73 => ?_)
        · have h := (if_pos c_73).symm.trans h
          exact J80 _ _ _ h hI (lv_sub hl [1, 3, 4, 0] rfl)
        · have h := (if_neg c_73).symm.trans h
          exact J76 _ _ _ h hI (lv_sub hl [1, 3, 4, 0] rfl)
      · have h := (if_neg c_44).symm.trans h
        refine lv_iload_n hx hb dX10_isGap_47 rfl (lv_at hl 4 rfl) ?_
        refine lv_bipush (v := 12) hx hb dX10_isGap_48 (by decide) ?_
        refine lv_irem hx hb dX10_isGap_50 (by decide) ?_
        refine lv_iconst (v := 1) hx hb dX10_isGap_51 (by decide) ?_
        refine lv_iadd hx hb dX10_isGap_52 ?_
        refine lv_aload_n hx hb dX10_isGap_53 rfl (lv_at hl 1 rfl) ?_
        refine g_get F hI (by decide) mE_0 rfl ku_X10 0 (by decide) kf_X10_71 rfl dX10_isGap_54 ?_
        refine lv_icmp_ge (tgt := 80) hx hb dX10_isGap_57 (by decide) (fun c_57 => ?_) (fun c_57 => ?_)
        · have h := (if_pos c_57).symm.trans h
          exact J80 _ _ _ h hI (lv_sub hl [1, 3, 4, 0] rfl)
        · have h := (if_neg c_57).symm.trans h
          refine lv_goto (tgt := 76) hx hb dX10_isGap_60 (by decide) ?_
          exact J76 _ _ _ h hI (lv_sub hl [1, 3, 4, 0] rfl)
  refine lv_icmp_ge (tgt := 19) hx hb dX10_isGap_10 (by decide) (fun c_10 => ?_) (fun c_10 => ?_)
  · have h := (if_pos c_10).symm.trans h
    refine lv_iload_n hx hb dX10_isGap_19 rfl (lv_at hl 0 rfl) ?_
    refine lv_bipush (v := 12) hx hb dX10_isGap_20 (by decide) ?_
    refine lv_iadd hx hb dX10_isGap_22 ?_
    exact J23 _ _ _ _ h hI (lv_sub hl [1, 2, 3, 0] rfl)
  · have h := (if_neg c_10).symm.trans h
    refine lv_iload_n hx hb dX10_isGap_13 rfl (lv_at hl 0 rfl) ?_
    refine lv_iconst (v := 1) hx hb dX10_isGap_14 (by decide) ?_
    refine lv_iadd hx hb dX10_isGap_15 ?_
    refine lv_goto (tgt := 23) hx hb dX10_isGap_16 (by decide) ?_
    exact J23 _ _ _ _ h hI (lv_sub hl [1, 2, 3, 0] rfl)
/-- SpurlineModel.joins(II)V -/
def f_X10_joins (N : Nat) (σ : gSt) (x1 x2 : Int32) : Option gSt :=
  if x2 < 0 ∨ 288 ≤ x2.toNatClampNeg then none else
  if x1 < 0 ∨ 288 ≤ x1.toNatClampNeg then none else
  gLoop2 (fun self18 (v5_18 : Int32) (s_18 : gSt) =>
    if 288 ≤ v5_18 then
      some s_18
    else
      if v5_18 < 0 ∨ 288 ≤ v5_18.toNatClampNeg then none else
      gJoin1 (fun (w0_55 : Int32) =>
          if v5_18 < 0 ∨ 288 ≤ v5_18.toNatClampNeg then none else
          self18 (v5_18 + 1) (g_pa s_18 12 v5_18 w0_55)) (fun j55 =>
        if g_ga s_18 12 v5_18 = g_ga σ 12 x2 then
          j55 (g_ga σ 12 x1)
        else
          if v5_18 < 0 ∨ 288 ≤ v5_18.toNatClampNeg then none else
          j55 (g_ga s_18 12 v5_18))) N 0 σ
abbrev rmX10_joins : Room := { frames := 0, cells := 0, slots := 0, locals := 0 }
theorem kb_X10_joins : g_CB yX10_joins cX10_joins 6 none 2 := ⟨kc_X10_joins, kn_X10, by decide +kernel⟩
set_option maxRecDepth 100000 in
set_option maxHeartbeats 4000000 in
theorem c_X10_joins (l : Launch) (D : va_G) (a : Nat → Nat) (cI cZ : ClassId) (hj : g_Inj 21 a) (N : Nat) (σ : gSt) (x1 x2 : Int32) (out : gSt) (hh : f_X10_joins N σ x1 x2 = some out) : Met l yX10_joins (Cond.code yX10_joins cX10_joins 6 none :: gW) rmX10_joins (g_Pc 21 D a (mE a cI cZ σ) [(cI, .int), (cZ, .boolean)] [.ref (a 0), .int x1, .int x2]) (g_Qv 21 D a (mE a cI cZ out)) 0 0 (g_Own 21 a) := by
  refine g_metv (by decide) hj (Nat.le_of_ble_eq_true rfl) ?_
  intro p e s m args below meth c Q ls F hl hI hq
  have hx := F.1.1
  have hb := F.1.2.1
  have hl : lv_has ls 6 [(0, .ref (a 0)), (1, .int x1), (2, .int x2)] := hl
  have h := hh
  unfold f_X10_joins at h
  refine lv_aload_n hx hb dX10_joins_0 rfl (lv_at hl 0 rfl) ?_
  refine g_get F hI (by decide) mE_0 rfl ku_X10 17 (by decide) kf_X10_47 rfl dX10_joins_1 ?_
  refine lv_iload_n hx hb dX10_joins_4 rfl (lv_at hl 2 rfl) ?_
  obtain ⟨g_5, h⟩ := g_guard h
  refine g_iald F hI (by decide) mE_a12 0 rfl g_5 dX10_joins_5 ?_
  refine lv_istore_n (lv' := [(3, .int (g_ga σ 12 x2)), (0, .ref (a 0)), (1, .int x1), (2, .int x2)]) hx hb dX10_joins_6 rfl hl (by decide) rfl (fun ls hl => ?_)
  refine lv_aload_n hx hb dX10_joins_7 rfl (lv_at hl 1 rfl) ?_
  refine g_get F hI (by decide) mE_0 rfl ku_X10 17 (by decide) kf_X10_47 rfl dX10_joins_8 ?_
  refine lv_iload_n hx hb dX10_joins_11 rfl (lv_at hl 2 rfl) ?_
  obtain ⟨g_12, h⟩ := g_guard h
  refine g_iald F hI (by decide) mE_a12 0 rfl g_12 dX10_joins_12 ?_
  refine lv_istore (lv' := [(4, .int (g_ga σ 12 x1)), (3, .int (g_ga σ 12 x2)), (0, .ref (a 0)), (1, .int x1), (2, .int x2)]) hx hb dX10_joins_13 hl (by decide) rfl (fun ls hl => ?_)
  refine lv_iconst (v := 0) hx hb dX10_joins_15 (by decide) ?_
  refine lv_istore (lv' := [(5, .int 0), (4, .int (g_ga σ 12 x1)), (3, .int (g_ga σ 12 x2)), (0, .ref (a 0)), (1, .int x1), (2, .int x2)]) hx hb dX10_joins_16 hl (by decide) rfl (fun ls hl => ?_)
  obtain ⟨lp18, hz18, hs18, h⟩ := gLoop2_in h
  have L18 : ∀ (n : Nat) (v5_18 : Int32) (s_18 : gSt) (H : Heap) (locs : List Loc) (ls : Array Slot), lp18 n v5_18 s_18 = some out → g_S 21 D a (mE a cI cZ s_18) s.heap H locs → lv_has ls 6 [(0, .ref (a 0)), (3, .int (g_ga σ 12 x2)), (4, .int (g_ga σ 12 x1)), (5, .int v5_18)] → W p l e rmX10_joins s m args below meth c H locs 0 0 Q (F0 m 18 ls []) := by
    intro n
    induction n with
    | zero => intro v5_18 s_18 H locs ls h; rw [hz18] at h; cases h
    | succ n ih18 =>
      intro v5_18 s_18 H locs ls h hI hl
      rw [hs18] at h
      refine lv_iload hx hb dX10_joins_18 (lv_at hl 3 rfl) ?_
      refine lv_sipush (v := 288) hx hb dX10_joins_20 (by decide) ?_
      refine lv_icmp_ge (tgt := 62) hx hb dX10_joins_23 (by decide) (fun c_23 => ?_) (fun c_23 => ?_)
      · have h := (if_pos c_23).symm.trans h
        have h := Option.some.inj h
        subst h
        exact hq _ _ _ _ hI dX10_joins_62
      · have h := (if_neg c_23).symm.trans h
        refine lv_aload_n hx hb dX10_joins_26 rfl (lv_at hl 0 rfl) ?_
        refine g_get F hI (by decide) mE_0 rfl ku_X10 17 (by decide) kf_X10_47 rfl dX10_joins_27 ?_
        refine lv_iload hx hb dX10_joins_30 (lv_at hl 3 rfl) ?_
        refine lv_aload_n hx hb dX10_joins_32 rfl (lv_at hl 0 rfl) ?_
        refine g_get F hI (by decide) mE_0 rfl ku_X10 17 (by decide) kf_X10_47 rfl dX10_joins_33 ?_
        refine lv_iload hx hb dX10_joins_36 (lv_at hl 3 rfl) ?_
        obtain ⟨g_38, h⟩ := g_guard h
        refine g_iald F hI (by decide) mE_a12 0 rfl g_38 dX10_joins_38 ?_
        refine lv_iload_n hx hb dX10_joins_39 rfl (lv_at hl 1 rfl) ?_
        obtain ⟨j55, hj55, h⟩ := gJoin1_in h
        have J55 : ∀ (w0_55 : Int32) (H : Heap) (locs : List Loc) (ls : Array Slot), j55 w0_55 = some out → g_S 21 D a (mE a cI cZ s_18) s.heap H locs → lv_has ls 6 [(0, .ref (a 0)), (3, .int (g_ga σ 12 x2)), (4, .int (g_ga σ 12 x1)), (5, .int v5_18)] → W p l e rmX10_joins s m args below meth c H locs 0 0 Q (F0 m 55 ls [.int w0_55, .int v5_18, .ref (a 13)]) := by
          intro w0_55 H locs ls h hI hl
          rw [hj55] at h
          obtain ⟨g_55, h⟩ := g_guard h
          refine g_iast (E' := mE a cI cZ (g_pa s_18 12 v5_18 w0_55)) F hI (by decide) mE_a12 0 rfl g_55 rfl mE_sa dX10_joins_55 (fun H locs hI => ?_)
          refine lv_iinc (v := v5_18 + 1) (lv' := [(5, .int (v5_18 + 1)), (0, .ref (a 0)), (3, .int (g_ga σ 12 x2)), (4, .int (g_ga σ 12 x1))]) hx hb dX10_joins_56 hl (k := 3) rfl rfl (by decide) rfl (fun ls hl => ?_)
          refine lv_goto (tgt := 18) hx hb dX10_joins_59 (by decide) ?_
          exact ih18 _ _ _ _ _ h hI (lv_sub hl [1, 2, 3, 0] rfl)
        refine lv_icmp_ne (tgt := 48) hx hb dX10_joins_40 (by decide) (fun c_40 => ?_) (fun c_40 => ?_)
        · have h := (if_neg c_40).symm.trans h
          refine lv_aload_n hx hb dX10_joins_48 rfl (lv_at hl 0 rfl) ?_
          refine g_get F hI (by decide) mE_0 rfl ku_X10 17 (by decide) kf_X10_47 rfl dX10_joins_49 ?_
          refine lv_iload hx hb dX10_joins_52 (lv_at hl 3 rfl) ?_
          obtain ⟨g_54, h⟩ := g_guard h
          refine g_iald F hI (by decide) mE_a12 0 rfl g_54 dX10_joins_54 ?_
          exact J55 _ _ _ _ h hI (lv_sub hl [0, 1, 2, 3] rfl)
        · have h := (if_pos c_40).symm.trans h
          refine lv_iload hx hb dX10_joins_43 (lv_at hl 2 rfl) ?_
          refine lv_goto (tgt := 55) hx hb dX10_joins_45 (by decide) ?_
          exact J55 _ _ _ _ h hI (lv_sub hl [0, 1, 2, 3] rfl)
  exact L18 _ _ _ _ _ _ h hI (lv_sub hl [3, 2, 1, 0] rfl)
/-- SpurlineModel.joinsSquare(II)V -/
def f_X10_joinsSquare (N : Nat) (σ : gSt) (x1 x2 : Int32) : Option gSt :=
  (f_X10_isGap N σ x1 x2).bind (fun (r_27 : Int32) =>
  gJoin1 (fun (w0_38 : Int32) =>
      (f_X10_isGap N σ (x1 + 12) x2).bind (fun (r_42 : Int32) =>
      gJoin1 (fun (w0_53 : Int32) =>
          (f_X10_isGap N σ (144 + x1) x2).bind (fun (r_58 : Int32) =>
          gJoin1 (fun (w0_69 : Int32) =>
              (f_X10_isGap N σ ((144 + x1) + 1) x2).bind (fun (r_74 : Int32) =>
              gJoin1 (fun (w0_85 : Int32) =>
                  if ((w0_38 + w0_53) + w0_69) + w0_85 = 4 then
                    if x1 < 0 ∨ 144 ≤ x1.toNatClampNeg then none else
                    if x1 + 1 < 0 ∨ 144 ≤ (x1 + 1).toNatClampNeg then none else
                    if x1 + 12 < 0 ∨ 144 ≤ (x1 + 12).toNatClampNeg then none else
                    if x1 + 13 < 0 ∨ 144 ≤ (x1 + 13).toNatClampNeg then none else
                    gJoin1 (fun (w0_144 : Int32) =>
                        if x1 < 0 ∨ 144 ≤ x1.toNatClampNeg then none else
                        gJoin1 (fun (w0_161 : Int32) =>
                            gJoin1 (fun (w0_171 : Int32) =>
                                gJoin1 (fun (w0_187 : Int32) =>
                                    (f_X10_joins N σ x1 w0_187).bind (fun (s_187 : gSt) =>
                                    gJoin1 (fun (w0_205 : Int32) =>
                                        (f_X10_joins N s_187 (x1 + 12) w0_205).bind (fun (s_205 : gSt) =>
                                        some s_205)) (fun j205 =>
                                      if w0_171 = 0 then
                                        j205 (144 + x1)
                                      else
                                        j205 ((144 + x1) + 1)))) (fun j187 =>
                                  if w0_171 = 0 then
                                    j187 ((144 + x1) + 1)
                                  else
                                    j187 (144 + x1))) (fun j171 =>
                              if w0_161 = w0_144 then
                                j171 1
                              else
                                j171 0)) (fun j161 =>
                          if x2 ≤ g_ga σ 0 x1 then
                            j161 0
                          else
                            j161 1)) (fun j144 =>
                      if (((g_ga σ 0 x1) + (g_ga σ 0 (x1 + 1))) + (g_ga σ 0 (x1 + 12))) + (g_ga σ 0 (x1 + 13)) < 4 * x2 then
                        j144 0
                      else
                        j144 1)
                  else
                    if ((w0_38 + w0_53) + w0_69) + w0_85 = 2 then
                      (f_X10_isGap N σ x1 x2).bind (fun (r_220 : Int32) =>
                      gJoin1 (fun (w0_247 : Int32) =>
                          (f_X10_isGap N σ ((144 + x1) + 1) x2).bind (fun (r_253 : Int32) =>
                          gJoin1 (fun (w0_281 : Int32) =>
                              (f_X10_joins N σ w0_247 w0_281).bind (fun (s_288 : gSt) =>
                              some s_288)) (fun j281 =>
                            if r_253 = 0 then
                              (f_X10_isGap N σ (144 + x1) x2).bind (fun (r_268 : Int32) =>
                              if r_268 = 0 then
                                j281 (x1 + 12)
                              else
                                j281 (144 + x1))
                            else
                              j281 ((144 + x1) + 1)))) (fun j247 =>
                        if r_220 = 0 then
                          (f_X10_isGap N σ (x1 + 12) x2).bind (fun (r_234 : Int32) =>
                          if r_234 = 0 then
                            j247 (144 + x1)
                          else
                            j247 (x1 + 12))
                        else
                          j247 x1))
                    else
                      some σ) (fun j85 =>
                if r_74 = 0 then
                  j85 0
                else
                  j85 1))) (fun j69 =>
            if r_58 = 0 then
              j69 0
            else
              j69 1))) (fun j53 =>
        if r_42 = 0 then
          j53 0
        else
          j53 1))) (fun j38 =>
    if r_27 = 0 then
      j38 0
    else
      j38 1))
abbrev rmX10_joinsSquare : Room := { frames := 3, cells := 0, slots := 0, locals := 69 }
theorem kb_X10_joinsSquare : g_CB yX10_joinsSquare cX10_joinsSquare 11 none 2 := ⟨kc_X10_joinsSquare, kn_X10, by decide +kernel⟩
set_option maxRecDepth 100000 in
set_option maxHeartbeats 4000000 in
theorem c_X10_joinsSquare (l : Launch) (D : va_G) (a : Nat → Nat) (cI cZ : ClassId) (hj : g_Inj 21 a) (N : Nat) (σ : gSt) (x1 x2 : Int32) (out : gSt) (hh : f_X10_joinsSquare N σ x1 x2 = some out) : Met l yX10_joinsSquare (Cond.code yX10_joinsSquare cX10_joinsSquare 11 none :: gW) rmX10_joinsSquare (g_Pc 21 D a (mE a cI cZ σ) [(cI, .int), (cZ, .boolean)] [.ref (a 0), .int x1, .int x2]) (g_Qv 21 D a (mE a cI cZ out)) 0 0 (g_Own 21 a) := by
  refine g_metv (by decide) hj (Nat.le_of_ble_eq_true rfl) ?_
  intro p e s m args below meth c Q ls F hl hI hq
  have hx := F.1.1
  have hb := F.1.2.1
  have hl : lv_has ls 11 [(0, .ref (a 0)), (1, .int x1), (2, .int x2)] := hl
  have h := hh
  unfold f_X10_joinsSquare at h
  refine lv_iload_n hx hb dX10_joinsSquare_0 rfl (lv_at hl 1 rfl) ?_
  refine lv_istore_n (lv' := [(3, .int x1), (0, .ref (a 0)), (1, .int x1), (2, .int x2)]) hx hb dX10_joinsSquare_1 rfl hl (by decide) rfl (fun ls hl => ?_)
  refine lv_iload_n hx hb dX10_joinsSquare_2 rfl (lv_at hl 2 rfl) ?_
  refine lv_bipush (v := 12) hx hb dX10_joinsSquare_3 (by decide) ?_
  refine lv_iadd hx hb dX10_joinsSquare_5 ?_
  refine lv_istore (lv' := [(4, .int (x1 + 12)), (3, .int x1), (0, .ref (a 0)), (1, .int x1), (2, .int x2)]) hx hb dX10_joinsSquare_6 hl (by decide) rfl (fun ls hl => ?_)
  refine lv_sipush (v := 144) hx hb dX10_joinsSquare_8 (by decide) ?_
  refine lv_iload_n hx hb dX10_joinsSquare_11 rfl (lv_at hl 3 rfl) ?_
  refine lv_iadd hx hb dX10_joinsSquare_12 ?_
  refine lv_istore (lv' := [(5, .int (144 + x1)), (4, .int (x1 + 12)), (3, .int x1), (0, .ref (a 0)), (1, .int x1), (2, .int x2)]) hx hb dX10_joinsSquare_13 hl (by decide) rfl (fun ls hl => ?_)
  refine lv_sipush (v := 144) hx hb dX10_joinsSquare_15 (by decide) ?_
  refine lv_iload_n hx hb dX10_joinsSquare_18 rfl (lv_at hl 4 rfl) ?_
  refine lv_iadd hx hb dX10_joinsSquare_19 ?_
  refine lv_iconst (v := 1) hx hb dX10_joinsSquare_20 (by decide) ?_
  refine lv_iadd hx hb dX10_joinsSquare_21 ?_
  refine lv_istore (lv' := [(6, .int ((144 + x1) + 1)), (5, .int (144 + x1)), (4, .int (x1 + 12)), (3, .int x1), (0, .ref (a 0)), (1, .int x1), (2, .int x2)]) hx hb dX10_joinsSquare_22 hl (by decide) rfl (fun ls hl => ?_)
  refine lv_aload_n hx hb dX10_joinsSquare_24 rfl (lv_at hl 4 rfl) ?_
  refine lv_iload_n hx hb dX10_joinsSquare_25 rfl (lv_at hl 3 rfl) ?_
  refine lv_iload_n hx hb dX10_joinsSquare_26 rfl (lv_at hl 6 rfl) ?_
  obtain ⟨r_27, e_27, h⟩ := gBind_in h
  refine g_callVi (E' := mE a cI cZ σ) (k0 := 0) (As := [.int x1, .int x2]) (rest := []) F hI (c_X10_isGap l D a cI cZ F.2.2 N σ x1 x2 r_27 e_27) kb_X10_isGap ki_X10_isGap ks_X10_isGap km_X10_106 ⟨Nat.le_of_ble_eq_true rfl, Nat.le_of_ble_eq_true rfl, rfl, rfl⟩ (by decide) mE_0 rfl hl.1 rfl (Nat.le_of_ble_eq_true rfl) ⟨Nat.zero_le _, Nat.zero_le _⟩ dX10_joinsSquare_27 (fun H locs hI => ?_)
  obtain ⟨j38, hj38, h⟩ := gJoin1_in h
  have J38 : ∀ (w0_38 : Int32) (H : Heap) (locs : List Loc) (ls : Array Slot), j38 w0_38 = some out → g_S 21 D a (mE a cI cZ σ) s.heap H locs → lv_has ls 11 [(0, .ref (a 0)), (1, .int x1), (2, .int x2), (3, .int x1), (4, .int (x1 + 12)), (5, .int (144 + x1)), (6, .int ((144 + x1) + 1))] → W p l e rmX10_joinsSquare s m args below meth c H locs 0 0 Q (F0 m 38 ls [.int w0_38]) := by
    intro w0_38 H locs ls h hI hl
    rw [hj38] at h
    refine lv_aload_n hx hb dX10_joinsSquare_38 rfl (lv_at hl 0 rfl) ?_
    refine lv_iload hx hb dX10_joinsSquare_39 (lv_at hl 4 rfl) ?_
    refine lv_iload_n hx hb dX10_joinsSquare_41 rfl (lv_at hl 2 rfl) ?_
    obtain ⟨r_42, e_42, h⟩ := gBind_in h
    refine g_callVi (E' := mE a cI cZ σ) (k0 := 0) (As := [.int (x1 + 12), .int x2]) (rest := [.int w0_38]) F hI (c_X10_isGap l D a cI cZ F.2.2 N σ (x1 + 12) x2 r_42 e_42) kb_X10_isGap ki_X10_isGap ks_X10_isGap km_X10_106 ⟨Nat.le_of_ble_eq_true rfl, Nat.le_of_ble_eq_true rfl, rfl, rfl⟩ (by decide) mE_0 rfl hl.1 rfl (Nat.le_of_ble_eq_true rfl) ⟨Nat.zero_le _, Nat.zero_le _⟩ dX10_joinsSquare_42 (fun H locs hI => ?_)
    obtain ⟨j53, hj53, h⟩ := gJoin1_in h
    have J53 : ∀ (w0_53 : Int32) (H : Heap) (locs : List Loc) (ls : Array Slot), j53 w0_53 = some out → g_S 21 D a (mE a cI cZ σ) s.heap H locs → lv_has ls 11 [(0, .ref (a 0)), (1, .int x1), (2, .int x2), (3, .int x1), (4, .int (x1 + 12)), (5, .int (144 + x1)), (6, .int ((144 + x1) + 1))] → W p l e rmX10_joinsSquare s m args below meth c H locs 0 0 Q (F0 m 53 ls [.int w0_53, .int w0_38]) := by
      intro w0_53 H locs ls h hI hl
      rw [hj53] at h
      refine lv_iadd hx hb dX10_joinsSquare_53 ?_
      refine lv_aload_n hx hb dX10_joinsSquare_54 rfl (lv_at hl 0 rfl) ?_
      refine lv_iload hx hb dX10_joinsSquare_55 (lv_at hl 5 rfl) ?_
      refine lv_iload_n hx hb dX10_joinsSquare_57 rfl (lv_at hl 2 rfl) ?_
      obtain ⟨r_58, e_58, h⟩ := gBind_in h
      refine g_callVi (E' := mE a cI cZ σ) (k0 := 0) (As := [.int (144 + x1), .int x2]) (rest := [.int (w0_38 + w0_53)]) F hI (c_X10_isGap l D a cI cZ F.2.2 N σ (144 + x1) x2 r_58 e_58) kb_X10_isGap ki_X10_isGap ks_X10_isGap km_X10_106 ⟨Nat.le_of_ble_eq_true rfl, Nat.le_of_ble_eq_true rfl, rfl, rfl⟩ (by decide) mE_0 rfl hl.1 rfl (Nat.le_of_ble_eq_true rfl) ⟨Nat.zero_le _, Nat.zero_le _⟩ dX10_joinsSquare_58 (fun H locs hI => ?_)
      obtain ⟨j69, hj69, h⟩ := gJoin1_in h
      have J69 : ∀ (w0_69 : Int32) (H : Heap) (locs : List Loc) (ls : Array Slot), j69 w0_69 = some out → g_S 21 D a (mE a cI cZ σ) s.heap H locs → lv_has ls 11 [(0, .ref (a 0)), (1, .int x1), (2, .int x2), (3, .int x1), (4, .int (x1 + 12)), (5, .int (144 + x1)), (6, .int ((144 + x1) + 1))] → W p l e rmX10_joinsSquare s m args below meth c H locs 0 0 Q (F0 m 69 ls [.int w0_69, .int (w0_38 + w0_53)]) := by
        intro w0_69 H locs ls h hI hl
        rw [hj69] at h
        refine lv_iadd hx hb dX10_joinsSquare_69 ?_
        refine lv_aload_n hx hb dX10_joinsSquare_70 rfl (lv_at hl 0 rfl) ?_
        refine lv_iload hx hb dX10_joinsSquare_71 (lv_at hl 6 rfl) ?_
        refine lv_iload_n hx hb dX10_joinsSquare_73 rfl (lv_at hl 2 rfl) ?_
        obtain ⟨r_74, e_74, h⟩ := gBind_in h
        refine g_callVi (E' := mE a cI cZ σ) (k0 := 0) (As := [.int ((144 + x1) + 1), .int x2]) (rest := [.int ((w0_38 + w0_53) + w0_69)]) F hI (c_X10_isGap l D a cI cZ F.2.2 N σ ((144 + x1) + 1) x2 r_74 e_74) kb_X10_isGap ki_X10_isGap ks_X10_isGap km_X10_106 ⟨Nat.le_of_ble_eq_true rfl, Nat.le_of_ble_eq_true rfl, rfl, rfl⟩ (by decide) mE_0 rfl hl.1 rfl (Nat.le_of_ble_eq_true rfl) ⟨Nat.zero_le _, Nat.zero_le _⟩ dX10_joinsSquare_74 (fun H locs hI => ?_)
        obtain ⟨j85, hj85, h⟩ := gJoin1_in h
        have J85 : ∀ (w0_85 : Int32) (H : Heap) (locs : List Loc) (ls : Array Slot), j85 w0_85 = some out → g_S 21 D a (mE a cI cZ σ) s.heap H locs → lv_has ls 11 [(0, .ref (a 0)), (1, .int x1), (2, .int x2), (3, .int x1), (4, .int (x1 + 12)), (5, .int (144 + x1)), (6, .int ((144 + x1) + 1))] → W p l e rmX10_joinsSquare s m args below meth c H locs 0 0 Q (F0 m 85 ls [.int w0_85, .int ((w0_38 + w0_53) + w0_69)]) := by
          intro w0_85 H locs ls h hI hl
          rw [hj85] at h
          refine lv_iadd hx hb dX10_joinsSquare_85 ?_
          refine lv_istore (lv' := [(7, .int (((w0_38 + w0_53) + w0_69) + w0_85)), (0, .ref (a 0)), (1, .int x1), (2, .int x2), (3, .int x1), (4, .int (x1 + 12)), (5, .int (144 + x1)), (6, .int ((144 + x1) + 1))]) hx hb dX10_joinsSquare_86 hl (by decide) rfl (fun ls hl => ?_)
          refine lv_iload hx hb dX10_joinsSquare_88 (lv_at hl 0 rfl) ?_
          refine lv_iconst (v := 4) hx hb dX10_joinsSquare_90 (by decide) ?_
          refine lv_icmp_ne (tgt := 211) hx hb dX10_joinsSquare_91 (by decide) (fun c_91 => ?_) (fun c_91 => ?_)
          · have h := (if_neg c_91).symm.trans h
            refine lv_iload hx hb dX10_joinsSquare_211 (lv_at hl 0 rfl) ?_
            refine lv_iconst (v := 2) hx hb dX10_joinsSquare_213 (by decide) ?_
            refine lv_icmp_ne (tgt := 291) hx hb dX10_joinsSquare_214 (by decide) (fun c_214 => ?_) (fun c_214 => ?_)
            · have h := (if_neg c_214).symm.trans h
              have h := Option.some.inj h
              subst h
              exact hq _ _ _ _ hI dX10_joinsSquare_291
            · have h := (if_pos c_214).symm.trans h
              refine lv_aload_n hx hb dX10_joinsSquare_217 rfl (lv_at hl 1 rfl) ?_
              refine lv_iload_n hx hb dX10_joinsSquare_218 rfl (lv_at hl 4 rfl) ?_
              refine lv_iload_n hx hb dX10_joinsSquare_219 rfl (lv_at hl 3 rfl) ?_
              obtain ⟨r_220, e_220, h⟩ := gBind_in h
              refine g_callVi (E' := mE a cI cZ σ) (k0 := 0) (As := [.int x1, .int x2]) (rest := []) F hI (c_X10_isGap l D a cI cZ F.2.2 N σ x1 x2 r_220 e_220) kb_X10_isGap ki_X10_isGap ks_X10_isGap km_X10_106 ⟨Nat.le_of_ble_eq_true rfl, Nat.le_of_ble_eq_true rfl, rfl, rfl⟩ (by decide) mE_0 rfl hl.1 rfl (Nat.le_of_ble_eq_true rfl) ⟨Nat.zero_le _, Nat.zero_le _⟩ dX10_joinsSquare_220 (fun H locs hI => ?_)
              obtain ⟨j247, hj247, h⟩ := gJoin1_in h
              have J247 : ∀ (w0_247 : Int32) (H : Heap) (locs : List Loc) (ls : Array Slot), j247 w0_247 = some out → g_S 21 D a (mE a cI cZ σ) s.heap H locs → lv_has ls 11 [(0, .ref (a 0)), (2, .int x2), (4, .int (x1 + 12)), (5, .int (144 + x1)), (6, .int ((144 + x1) + 1))] → W p l e rmX10_joinsSquare s m args below meth c H locs 0 0 Q (F0 m 247 ls [.int w0_247]) := by
                intro w0_247 H locs ls h hI hl
                rw [hj247] at h
                refine lv_istore (lv' := [(8, .int w0_247), (0, .ref (a 0)), (2, .int x2), (4, .int (x1 + 12)), (5, .int (144 + x1)), (6, .int ((144 + x1) + 1))]) hx hb dX10_joinsSquare_247 hl (by decide) rfl (fun ls hl => ?_)
                refine lv_aload_n hx hb dX10_joinsSquare_249 rfl (lv_at hl 1 rfl) ?_
                refine lv_iload hx hb dX10_joinsSquare_250 (lv_at hl 5 rfl) ?_
                refine lv_iload_n hx hb dX10_joinsSquare_252 rfl (lv_at hl 2 rfl) ?_
                obtain ⟨r_253, e_253, h⟩ := gBind_in h
                refine g_callVi (E' := mE a cI cZ σ) (k0 := 0) (As := [.int ((144 + x1) + 1), .int x2]) (rest := []) F hI (c_X10_isGap l D a cI cZ F.2.2 N σ ((144 + x1) + 1) x2 r_253 e_253) kb_X10_isGap ki_X10_isGap ks_X10_isGap km_X10_106 ⟨Nat.le_of_ble_eq_true rfl, Nat.le_of_ble_eq_true rfl, rfl, rfl⟩ (by decide) mE_0 rfl hl.1 rfl (Nat.le_of_ble_eq_true rfl) ⟨Nat.zero_le _, Nat.zero_le _⟩ dX10_joinsSquare_253 (fun H locs hI => ?_)
                obtain ⟨j281, hj281, h⟩ := gJoin1_in h
                have J281 : ∀ (w0_281 : Int32) (H : Heap) (locs : List Loc) (ls : Array Slot), j281 w0_281 = some out → g_S 21 D a (mE a cI cZ σ) s.heap H locs → lv_has ls 11 [(0, .ref (a 0)), (8, .int w0_247)] → W p l e rmX10_joinsSquare s m args below meth c H locs 0 0 Q (F0 m 281 ls [.int w0_281]) := by
                  intro w0_281 H locs ls h hI hl
                  rw [hj281] at h
                  refine lv_istore (lv' := [(9, .int w0_281), (0, .ref (a 0)), (8, .int w0_247)]) hx hb dX10_joinsSquare_281 hl (by decide) rfl (fun ls hl => ?_)
                  refine lv_aload_n hx hb dX10_joinsSquare_283 rfl (lv_at hl 1 rfl) ?_
                  refine lv_iload hx hb dX10_joinsSquare_284 (lv_at hl 2 rfl) ?_
                  refine lv_iload hx hb dX10_joinsSquare_286 (lv_at hl 0 rfl) ?_
                  obtain ⟨s_288, e_288, h⟩ := gBind_in h
                  refine g_callVv (E' := mE a cI cZ s_288) (k0 := 0) (As := [.int w0_247, .int w0_281]) (rest := []) F hI (c_X10_joins l D a cI cZ F.2.2 N σ w0_247 w0_281 s_288 e_288) kb_X10_joins ki_X10_joins ks_X10_joins km_X10_109 ⟨Nat.le_of_ble_eq_true rfl, Nat.le_of_ble_eq_true rfl, rfl, rfl⟩ (by decide) mE_0 rfl hl.1 rfl (Nat.le_of_ble_eq_true rfl) ⟨Nat.zero_le _, Nat.zero_le _⟩ dX10_joinsSquare_288 (fun H locs hI => ?_)
                  have h := Option.some.inj h
                  subst h
                  exact hq _ _ _ _ hI dX10_joinsSquare_291
                refine lv_if_eq (tgt := 264) hx hb dX10_joinsSquare_256 (by decide) (fun c_256 => ?_) (fun c_256 => ?_)
                · have h := (if_pos c_256).symm.trans h
                  refine lv_aload_n hx hb dX10_joinsSquare_264 rfl (lv_at hl 1 rfl) ?_
                  refine lv_iload hx hb dX10_joinsSquare_265 (lv_at hl 4 rfl) ?_
                  refine lv_iload_n hx hb dX10_joinsSquare_267 rfl (lv_at hl 2 rfl) ?_
                  obtain ⟨r_268, e_268, h⟩ := gBind_in h
                  refine g_callVi (E' := mE a cI cZ σ) (k0 := 0) (As := [.int (144 + x1), .int x2]) (rest := []) F hI (c_X10_isGap l D a cI cZ F.2.2 N σ (144 + x1) x2 r_268 e_268) kb_X10_isGap ki_X10_isGap ks_X10_isGap km_X10_106 ⟨Nat.le_of_ble_eq_true rfl, Nat.le_of_ble_eq_true rfl, rfl, rfl⟩ (by decide) mE_0 rfl hl.1 rfl (Nat.le_of_ble_eq_true rfl) ⟨Nat.zero_le _, Nat.zero_le _⟩ dX10_joinsSquare_268 (fun H locs hI => ?_)
                  refine lv_if_eq (tgt := 279) hx hb dX10_joinsSquare_271 (by decide) (fun c_271 => ?_) (fun c_271 => ?_)
                  · have h := (if_pos c_271).symm.trans h
                    refine lv_iload hx hb dX10_joinsSquare_279 (lv_at hl 3 rfl) ?_
                    exact J281 _ _ _ _ h hI (lv_sub hl [1, 0] rfl)
                  · have h := (if_neg c_271).symm.trans h
                    refine lv_iload hx hb dX10_joinsSquare_274 (lv_at hl 4 rfl) ?_
                    refine lv_goto (tgt := 281) hx hb dX10_joinsSquare_276 (by decide) ?_
                    exact J281 _ _ _ _ h hI (lv_sub hl [1, 0] rfl)
                · have h := (if_neg c_256).symm.trans h
                  refine lv_iload hx hb dX10_joinsSquare_259 (lv_at hl 5 rfl) ?_
                  refine lv_goto (tgt := 281) hx hb dX10_joinsSquare_261 (by decide) ?_
                  exact J281 _ _ _ _ h hI (lv_sub hl [1, 0] rfl)
              refine lv_if_eq (tgt := 230) hx hb dX10_joinsSquare_223 (by decide) (fun c_223 => ?_) (fun c_223 => ?_)
              · have h := (if_pos c_223).symm.trans h
                refine lv_aload_n hx hb dX10_joinsSquare_230 rfl (lv_at hl 1 rfl) ?_
                refine lv_iload hx hb dX10_joinsSquare_231 (lv_at hl 5 rfl) ?_
                refine lv_iload_n hx hb dX10_joinsSquare_233 rfl (lv_at hl 3 rfl) ?_
                obtain ⟨r_234, e_234, h⟩ := gBind_in h
                refine g_callVi (E' := mE a cI cZ σ) (k0 := 0) (As := [.int (x1 + 12), .int x2]) (rest := []) F hI (c_X10_isGap l D a cI cZ F.2.2 N σ (x1 + 12) x2 r_234 e_234) kb_X10_isGap ki_X10_isGap ks_X10_isGap km_X10_106 ⟨Nat.le_of_ble_eq_true rfl, Nat.le_of_ble_eq_true rfl, rfl, rfl⟩ (by decide) mE_0 rfl hl.1 rfl (Nat.le_of_ble_eq_true rfl) ⟨Nat.zero_le _, Nat.zero_le _⟩ dX10_joinsSquare_234 (fun H locs hI => ?_)
                refine lv_if_eq (tgt := 245) hx hb dX10_joinsSquare_237 (by decide) (fun c_237 => ?_) (fun c_237 => ?_)
                · have h := (if_pos c_237).symm.trans h
                  refine lv_iload hx hb dX10_joinsSquare_245 (lv_at hl 6 rfl) ?_
                  exact J247 _ _ _ _ h hI (lv_sub hl [1, 3, 5, 6, 7] rfl)
                · have h := (if_neg c_237).symm.trans h
                  refine lv_iload hx hb dX10_joinsSquare_240 (lv_at hl 5 rfl) ?_
                  refine lv_goto (tgt := 247) hx hb dX10_joinsSquare_242 (by decide) ?_
                  exact J247 _ _ _ _ h hI (lv_sub hl [1, 3, 5, 6, 7] rfl)
              · have h := (if_neg c_223).symm.trans h
                refine lv_iload_n hx hb dX10_joinsSquare_226 rfl (lv_at hl 4 rfl) ?_
                refine lv_goto (tgt := 247) hx hb dX10_joinsSquare_227 (by decide) ?_
                exact J247 _ _ _ _ h hI (lv_sub hl [1, 3, 5, 6, 7] rfl)
          · have h := (if_pos c_91).symm.trans h
            refine lv_aload_n hx hb dX10_joinsSquare_94 rfl (lv_at hl 1 rfl) ?_
            refine g_get F hI (by decide) mE_0 rfl ku_X10 2 (by decide) kf_X10_7 rfl dX10_joinsSquare_95 ?_
            refine lv_iload_n hx hb dX10_joinsSquare_98 rfl (lv_at hl 2 rfl) ?_
            obtain ⟨g_99, h⟩ := g_guard h
            refine g_iald F hI (by decide) mE_a0 0 rfl g_99 dX10_joinsSquare_99 ?_
            refine lv_aload_n hx hb dX10_joinsSquare_100 rfl (lv_at hl 1 rfl) ?_
            refine g_get F hI (by decide) mE_0 rfl ku_X10 2 (by decide) kf_X10_7 rfl dX10_joinsSquare_101 ?_
            refine lv_iload_n hx hb dX10_joinsSquare_104 rfl (lv_at hl 2 rfl) ?_
            refine lv_iconst (v := 1) hx hb dX10_joinsSquare_105 (by decide) ?_
            refine lv_iadd hx hb dX10_joinsSquare_106 ?_
            obtain ⟨g_107, h⟩ := g_guard h
            refine g_iald F hI (by decide) mE_a0 0 rfl g_107 dX10_joinsSquare_107 ?_
            refine lv_iadd hx hb dX10_joinsSquare_108 ?_
            refine lv_aload_n hx hb dX10_joinsSquare_109 rfl (lv_at hl 1 rfl) ?_
            refine g_get F hI (by decide) mE_0 rfl ku_X10 2 (by decide) kf_X10_7 rfl dX10_joinsSquare_110 ?_
            refine lv_iload_n hx hb dX10_joinsSquare_113 rfl (lv_at hl 2 rfl) ?_
            refine lv_bipush (v := 12) hx hb dX10_joinsSquare_114 (by decide) ?_
            refine lv_iadd hx hb dX10_joinsSquare_116 ?_
            obtain ⟨g_117, h⟩ := g_guard h
            refine g_iald F hI (by decide) mE_a0 0 rfl g_117 dX10_joinsSquare_117 ?_
            refine lv_iadd hx hb dX10_joinsSquare_118 ?_
            refine lv_aload_n hx hb dX10_joinsSquare_119 rfl (lv_at hl 1 rfl) ?_
            refine g_get F hI (by decide) mE_0 rfl ku_X10 2 (by decide) kf_X10_7 rfl dX10_joinsSquare_120 ?_
            refine lv_iload_n hx hb dX10_joinsSquare_123 rfl (lv_at hl 2 rfl) ?_
            refine lv_bipush (v := 13) hx hb dX10_joinsSquare_124 (by decide) ?_
            refine lv_iadd hx hb dX10_joinsSquare_126 ?_
            obtain ⟨g_127, h⟩ := g_guard h
            refine g_iald F hI (by decide) mE_a0 0 rfl g_127 dX10_joinsSquare_127 ?_
            refine lv_iadd hx hb dX10_joinsSquare_128 ?_
            refine lv_istore (lv' := [(8, .int ((((g_ga σ 0 x1) + (g_ga σ 0 (x1 + 1))) + (g_ga σ 0 (x1 + 12))) + (g_ga σ 0 (x1 + 13)))), (7, .int (((w0_38 + w0_53) + w0_69) + w0_85)), (0, .ref (a 0)), (1, .int x1), (2, .int x2), (3, .int x1), (4, .int (x1 + 12)), (5, .int (144 + x1)), (6, .int ((144 + x1) + 1))]) hx hb dX10_joinsSquare_129 hl (by decide) rfl (fun ls hl => ?_)
            refine lv_iload hx hb dX10_joinsSquare_131 (lv_at hl 0 rfl) ?_
            refine lv_iconst (v := 4) hx hb dX10_joinsSquare_133 (by decide) ?_
            refine lv_iload_n hx hb dX10_joinsSquare_134 rfl (lv_at hl 4 rfl) ?_
            refine lv_imul hx hb dX10_joinsSquare_135 ?_
            obtain ⟨j144, hj144, h⟩ := gJoin1_in h
            have J144 : ∀ (w0_144 : Int32) (H : Heap) (locs : List Loc) (ls : Array Slot), j144 w0_144 = some out → g_S 21 D a (mE a cI cZ σ) s.heap H locs → lv_has ls 11 [(0, .ref (a 0)), (1, .int x1), (2, .int x2), (3, .int x1), (4, .int (x1 + 12)), (5, .int (144 + x1)), (6, .int ((144 + x1) + 1))] → W p l e rmX10_joinsSquare s m args below meth c H locs 0 0 Q (F0 m 144 ls [.int w0_144]) := by
              intro w0_144 H locs ls h hI hl
              rw [hj144] at h
              refine lv_istore (lv' := [(9, .int w0_144), (0, .ref (a 0)), (1, .int x1), (2, .int x2), (3, .int x1), (4, .int (x1 + 12)), (5, .int (144 + x1)), (6, .int ((144 + x1) + 1))]) hx hb dX10_joinsSquare_144 hl (by decide) rfl (fun ls hl => ?_)
              refine lv_aload_n hx hb dX10_joinsSquare_146 rfl (lv_at hl 1 rfl) ?_
              refine g_get F hI (by decide) mE_0 rfl ku_X10 2 (by decide) kf_X10_7 rfl dX10_joinsSquare_147 ?_
              refine lv_iload_n hx hb dX10_joinsSquare_150 rfl (lv_at hl 2 rfl) ?_
              obtain ⟨g_151, h⟩ := g_guard h
              refine g_iald F hI (by decide) mE_a0 0 rfl g_151 dX10_joinsSquare_151 ?_
              refine lv_iload_n hx hb dX10_joinsSquare_152 rfl (lv_at hl 3 rfl) ?_
              obtain ⟨j161, hj161, h⟩ := gJoin1_in h
              have J161 : ∀ (w0_161 : Int32) (H : Heap) (locs : List Loc) (ls : Array Slot), j161 w0_161 = some out → g_S 21 D a (mE a cI cZ σ) s.heap H locs → lv_has ls 11 [(0, .ref (a 0)), (3, .int x1), (4, .int (x1 + 12)), (5, .int (144 + x1)), (6, .int ((144 + x1) + 1)), (9, .int w0_144)] → W p l e rmX10_joinsSquare s m args below meth c H locs 0 0 Q (F0 m 161 ls [.int w0_161]) := by
                intro w0_161 H locs ls h hI hl
                rw [hj161] at h
                refine lv_iload hx hb dX10_joinsSquare_161 (lv_at hl 5 rfl) ?_
                obtain ⟨j171, hj171, h⟩ := gJoin1_in h
                have J171 : ∀ (w0_171 : Int32) (H : Heap) (locs : List Loc) (ls : Array Slot), j171 w0_171 = some out → g_S 21 D a (mE a cI cZ σ) s.heap H locs → lv_has ls 11 [(0, .ref (a 0)), (3, .int x1), (4, .int (x1 + 12)), (5, .int (144 + x1)), (6, .int ((144 + x1) + 1))] → W p l e rmX10_joinsSquare s m args below meth c H locs 0 0 Q (F0 m 171 ls [.int w0_171]) := by
                  intro w0_171 H locs ls h hI hl
                  rw [hj171] at h
                  refine lv_istore (lv' := [(10, .int w0_171), (0, .ref (a 0)), (3, .int x1), (4, .int (x1 + 12)), (5, .int (144 + x1)), (6, .int ((144 + x1) + 1))]) hx hb dX10_joinsSquare_171 hl (by decide) rfl (fun ls hl => ?_)
                  refine lv_aload_n hx hb dX10_joinsSquare_173 rfl (lv_at hl 1 rfl) ?_
                  refine lv_iload_n hx hb dX10_joinsSquare_174 rfl (lv_at hl 2 rfl) ?_
                  refine lv_iload hx hb dX10_joinsSquare_175 (lv_at hl 0 rfl) ?_
                  obtain ⟨j187, hj187, h⟩ := gJoin1_in h
                  have J187 : ∀ (w0_187 : Int32) (H : Heap) (locs : List Loc) (ls : Array Slot), j187 w0_187 = some out → g_S 21 D a (mE a cI cZ σ) s.heap H locs → lv_has ls 11 [(0, .ref (a 0)), (4, .int (x1 + 12)), (5, .int (144 + x1)), (6, .int ((144 + x1) + 1)), (10, .int w0_171)] → W p l e rmX10_joinsSquare s m args below meth c H locs 0 0 Q (F0 m 187 ls [.int w0_187, .int x1, .ref (a 0)]) := by
                    intro w0_187 H locs ls h hI hl
                    rw [hj187] at h
                    obtain ⟨s_187, e_187, h⟩ := gBind_in h
                    refine g_callVv (E' := mE a cI cZ s_187) (k0 := 0) (As := [.int x1, .int w0_187]) (rest := []) F hI (c_X10_joins l D a cI cZ F.2.2 N σ x1 w0_187 s_187 e_187) kb_X10_joins ki_X10_joins ks_X10_joins km_X10_109 ⟨Nat.le_of_ble_eq_true rfl, Nat.le_of_ble_eq_true rfl, rfl, rfl⟩ (by decide) mE_0 rfl hl.1 rfl (Nat.le_of_ble_eq_true rfl) ⟨Nat.zero_le _, Nat.zero_le _⟩ dX10_joinsSquare_187 (fun H locs hI => ?_)
                    refine lv_aload_n hx hb dX10_joinsSquare_190 rfl (lv_at hl 0 rfl) ?_
                    refine lv_iload hx hb dX10_joinsSquare_191 (lv_at hl 1 rfl) ?_
                    refine lv_iload hx hb dX10_joinsSquare_193 (lv_at hl 4 rfl) ?_
                    obtain ⟨j205, hj205, h⟩ := gJoin1_in h
                    have J205 : ∀ (w0_205 : Int32) (H : Heap) (locs : List Loc) (ls : Array Slot), j205 w0_205 = some out → g_S 21 D a (mE a cI cZ s_187) s.heap H locs → lv_has ls 11 [] → W p l e rmX10_joinsSquare s m args below meth c H locs 0 0 Q (F0 m 205 ls [.int w0_205, .int (x1 + 12), .ref (a 0)]) := by
                      intro w0_205 H locs ls h hI hl
                      rw [hj205] at h
                      obtain ⟨s_205, e_205, h⟩ := gBind_in h
                      refine g_callVv (E' := mE a cI cZ s_205) (k0 := 0) (As := [.int (x1 + 12), .int w0_205]) (rest := []) F hI (c_X10_joins l D a cI cZ F.2.2 N s_187 (x1 + 12) w0_205 s_205 e_205) kb_X10_joins ki_X10_joins ks_X10_joins km_X10_109 ⟨Nat.le_of_ble_eq_true rfl, Nat.le_of_ble_eq_true rfl, rfl, rfl⟩ (by decide) mE_0 rfl hl.1 rfl (Nat.le_of_ble_eq_true rfl) ⟨Nat.zero_le _, Nat.zero_le _⟩ dX10_joinsSquare_205 (fun H locs hI => ?_)
                      refine lv_goto (tgt := 291) hx hb dX10_joinsSquare_208 (by decide) ?_
                      have h := Option.some.inj h
                      subst h
                      exact hq _ _ _ _ hI dX10_joinsSquare_291
                    refine lv_if_eq (tgt := 203) hx hb dX10_joinsSquare_195 (by decide) (fun c_195 => ?_) (fun c_195 => ?_)
                    · have h := (if_pos c_195).symm.trans h
                      refine lv_iload hx hb dX10_joinsSquare_203 (lv_at hl 2 rfl) ?_
                      exact J205 _ _ _ _ h hI (lv_sub hl [] rfl)
                    · have h := (if_neg c_195).symm.trans h
                      refine lv_iload hx hb dX10_joinsSquare_198 (lv_at hl 3 rfl) ?_
                      refine lv_goto (tgt := 205) hx hb dX10_joinsSquare_200 (by decide) ?_
                      exact J205 _ _ _ _ h hI (lv_sub hl [] rfl)
                  refine lv_if_eq (tgt := 185) hx hb dX10_joinsSquare_177 (by decide) (fun c_177 => ?_) (fun c_177 => ?_)
                  · have h := (if_pos c_177).symm.trans h
                    refine lv_iload hx hb dX10_joinsSquare_185 (lv_at hl 5 rfl) ?_
                    exact J187 _ _ _ _ h hI (lv_sub hl [1, 3, 4, 5, 0] rfl)
                  · have h := (if_neg c_177).symm.trans h
                    refine lv_iload hx hb dX10_joinsSquare_180 (lv_at hl 4 rfl) ?_
                    refine lv_goto (tgt := 187) hx hb dX10_joinsSquare_182 (by decide) ?_
                    exact J187 _ _ _ _ h hI (lv_sub hl [1, 3, 4, 5, 0] rfl)
                refine lv_icmp_ne (tgt := 170) hx hb dX10_joinsSquare_163 (by decide) (fun c_163 => ?_) (fun c_163 => ?_)
                · have h := (if_neg c_163).symm.trans h
                  refine lv_iconst (v := 0) hx hb dX10_joinsSquare_170 (by decide) ?_
                  exact J171 _ _ _ _ h hI (lv_sub hl [0, 1, 2, 3, 4] rfl)
                · have h := (if_pos c_163).symm.trans h
                  refine lv_iconst (v := 1) hx hb dX10_joinsSquare_166 (by decide) ?_
                  refine lv_goto (tgt := 171) hx hb dX10_joinsSquare_167 (by decide) ?_
                  exact J171 _ _ _ _ h hI (lv_sub hl [0, 1, 2, 3, 4] rfl)
              refine lv_icmp_ge (tgt := 160) hx hb dX10_joinsSquare_153 (by decide) (fun c_153 => ?_) (fun c_153 => ?_)
              · have h := (if_pos c_153).symm.trans h
                refine lv_iconst (v := 0) hx hb dX10_joinsSquare_160 (by decide) ?_
                exact J161 _ _ _ _ h hI (lv_sub hl [1, 4, 5, 6, 7, 0] rfl)
              · have h := (if_neg c_153).symm.trans h
                refine lv_iconst (v := 1) hx hb dX10_joinsSquare_156 (by decide) ?_
                refine lv_goto (tgt := 161) hx hb dX10_joinsSquare_157 (by decide) ?_
                exact J161 _ _ _ _ h hI (lv_sub hl [1, 4, 5, 6, 7, 0] rfl)
            refine lv_icmp_lt (tgt := 143) hx hb dX10_joinsSquare_136 (by decide) (fun c_136 => ?_) (fun c_136 => ?_)
            · have h := (if_pos c_136).symm.trans h
              refine lv_iconst (v := 0) hx hb dX10_joinsSquare_143 (by decide) ?_
              exact J144 _ _ _ _ h hI (lv_sub hl [2, 3, 4, 5, 6, 7, 8] rfl)
            · have h := (if_neg c_136).symm.trans h
              refine lv_iconst (v := 1) hx hb dX10_joinsSquare_139 (by decide) ?_
              refine lv_goto (tgt := 144) hx hb dX10_joinsSquare_140 (by decide) ?_
              exact J144 _ _ _ _ h hI (lv_sub hl [2, 3, 4, 5, 6, 7, 8] rfl)
        refine lv_if_eq (tgt := 84) hx hb dX10_joinsSquare_77 (by decide) (fun c_77 => ?_) (fun c_77 => ?_)
        · have h := (if_pos c_77).symm.trans h
          refine lv_iconst (v := 0) hx hb dX10_joinsSquare_84 (by decide) ?_
          exact J85 _ _ _ _ h hI (lv_sub hl [0, 1, 2, 3, 4, 5, 6] rfl)
        · have h := (if_neg c_77).symm.trans h
          refine lv_iconst (v := 1) hx hb dX10_joinsSquare_80 (by decide) ?_
          refine lv_goto (tgt := 85) hx hb dX10_joinsSquare_81 (by decide) ?_
          exact J85 _ _ _ _ h hI (lv_sub hl [0, 1, 2, 3, 4, 5, 6] rfl)
      refine lv_if_eq (tgt := 68) hx hb dX10_joinsSquare_61 (by decide) (fun c_61 => ?_) (fun c_61 => ?_)
      · have h := (if_pos c_61).symm.trans h
        refine lv_iconst (v := 0) hx hb dX10_joinsSquare_68 (by decide) ?_
        exact J69 _ _ _ _ h hI (lv_sub hl [0, 1, 2, 3, 4, 5, 6] rfl)
      · have h := (if_neg c_61).symm.trans h
        refine lv_iconst (v := 1) hx hb dX10_joinsSquare_64 (by decide) ?_
        refine lv_goto (tgt := 69) hx hb dX10_joinsSquare_65 (by decide) ?_
        exact J69 _ _ _ _ h hI (lv_sub hl [0, 1, 2, 3, 4, 5, 6] rfl)
    refine lv_if_eq (tgt := 52) hx hb dX10_joinsSquare_45 (by decide) (fun c_45 => ?_) (fun c_45 => ?_)
    · have h := (if_pos c_45).symm.trans h
      refine lv_iconst (v := 0) hx hb dX10_joinsSquare_52 (by decide) ?_
      exact J53 _ _ _ _ h hI (lv_sub hl [0, 1, 2, 3, 4, 5, 6] rfl)
    · have h := (if_neg c_45).symm.trans h
      refine lv_iconst (v := 1) hx hb dX10_joinsSquare_48 (by decide) ?_
      refine lv_goto (tgt := 53) hx hb dX10_joinsSquare_49 (by decide) ?_
      exact J53 _ _ _ _ h hI (lv_sub hl [0, 1, 2, 3, 4, 5, 6] rfl)
  refine lv_if_eq (tgt := 37) hx hb dX10_joinsSquare_30 (by decide) (fun c_30 => ?_) (fun c_30 => ?_)
  · have h := (if_pos c_30).symm.trans h
    refine lv_iconst (v := 0) hx hb dX10_joinsSquare_37 (by decide) ?_
    exact J38 _ _ _ _ h hI (lv_sub hl [4, 5, 6, 3, 2, 1, 0] rfl)
  · have h := (if_neg c_30).symm.trans h
    refine lv_iconst (v := 1) hx hb dX10_joinsSquare_33 (by decide) ?_
    refine lv_goto (tgt := 38) hx hb dX10_joinsSquare_34 (by decide) ?_
    exact J38 _ _ _ _ h hI (lv_sub hl [4, 5, 6, 3, 2, 1, 0] rfl)
/-- SpurlineModel.findsLines(I)V -/
def f_X10_findsLines (N : Nat) (σ : gSt) (x1 : Int32) : Option gSt :=
  gLoop2 (fun self2 (v2_2 : Int32) (s_2 : gSt) =>
    if 288 ≤ v2_2 then
      gLoop2 (fun self44 (v2_44 : Int32) (s_44 : gSt) =>
        if 144 ≤ v2_44 then
          gLoop2 (fun self91 (v2_91 : Int32) (s_91 : gSt) =>
            if 288 ≤ v2_91 then
              some s_91
            else
              if v2_91 < 0 ∨ 288 ≤ v2_91.toNatClampNeg then none else
              gJoin1 (fun (s_123 : gSt) =>
                  self91 (v2_91 + 1) s_123) (fun j123 =>
                if g_ga s_91 12 v2_91 = (-1) then
                  j123 s_91
                else
                  if v2_91 < 0 ∨ 288 ≤ v2_91.toNatClampNeg then none else
                  if g_ga s_91 12 v2_91 < 0 ∨ 288 ≤ (g_ga s_91 12 v2_91).toNatClampNeg then none else
                  if g_ga s_91 12 v2_91 < 0 ∨ 288 ≤ (g_ga s_91 12 v2_91).toNatClampNeg then none else
                  j123 (g_pa s_91 13 (g_ga s_91 12 v2_91) ((g_ga s_91 13 (g_ga s_91 12 v2_91)) + 1)))) N 0 s_44
        else
          gJoin1 (fun (s_83 : gSt) =>
              self44 (v2_44 + 1) s_83) (fun j83 =>
            if s_44.2 0 ≤ (v2_44 - v2_44 / 12 * 12) + 1 then
              j83 s_44
            else
              if s_44.2 1 ≤ (v2_44 / 12) + 1 then
                j83 s_44
              else
                (f_X10_joinsSquare N s_44 v2_44 x1).bind (fun (s_80 : gSt) =>
                j83 s_80))) N 0 s_2
    else
      (f_X10_isGap N s_2 v2_2 x1).bind (fun (r_17 : Int32) =>
      gJoin1 (fun (w0_28 : Int32) =>
          if v2_2 < 0 ∨ 288 ≤ v2_2.toNatClampNeg then none else
          if v2_2 < 0 ∨ 288 ≤ v2_2.toNatClampNeg then none else
          self2 (v2_2 + 1) (g_pa (g_pa s_2 12 v2_2 w0_28) 13 v2_2 0)) (fun j28 =>
        if r_17 = 0 then
          j28 (-1)
        else
          j28 v2_2))) N 0 σ
abbrev rmX10_findsLines : Room := { frames := 4, cells := 0, slots := 0, locals := 99 }
theorem kb_X10_findsLines : g_CB yX10_findsLines cX10_findsLines 3 none 1 := ⟨kc_X10_findsLines, kn_X10, by decide +kernel⟩
set_option maxRecDepth 100000 in
set_option maxHeartbeats 4000000 in
theorem c_X10_findsLines (l : Launch) (D : va_G) (a : Nat → Nat) (cI cZ : ClassId) (hj : g_Inj 21 a) (N : Nat) (σ : gSt) (x1 : Int32) (out : gSt) (hh : f_X10_findsLines N σ x1 = some out) : Met l yX10_findsLines (Cond.code yX10_findsLines cX10_findsLines 3 none :: gW) rmX10_findsLines (g_Pc 21 D a (mE a cI cZ σ) [(cI, .int), (cZ, .boolean)] [.ref (a 0), .int x1]) (g_Qv 21 D a (mE a cI cZ out)) 0 0 (g_Own 21 a) := by
  refine g_metv (by decide) hj (Nat.le_of_ble_eq_true rfl) ?_
  intro p e s m args below meth c Q ls F hl hI hq
  have hx := F.1.1
  have hb := F.1.2.1
  have hl : lv_has ls 3 [(0, .ref (a 0)), (1, .int x1)] := hl
  have h := hh
  unfold f_X10_findsLines at h
  refine lv_iconst (v := 0) hx hb dX10_findsLines_0 (by decide) ?_
  refine lv_istore_n (lv' := [(2, .int 0), (0, .ref (a 0)), (1, .int x1)]) hx hb dX10_findsLines_1 rfl hl (by decide) rfl (fun ls hl => ?_)
  obtain ⟨lp2, hz2, hs2, h⟩ := gLoop2_in h
  have L2 : ∀ (n : Nat) (v2_2 : Int32) (s_2 : gSt) (H : Heap) (locs : List Loc) (ls : Array Slot), lp2 n v2_2 s_2 = some out → g_S 21 D a (mE a cI cZ s_2) s.heap H locs → lv_has ls 3 [(0, .ref (a 0)), (1, .int x1), (2, .int v2_2)] → W p l e rmX10_findsLines s m args below meth c H locs 0 0 Q (F0 m 2 ls []) := by
    intro n
    induction n with
    | zero => intro v2_2 s_2 H locs ls h; rw [hz2] at h; cases h
    | succ n ih2 =>
      intro v2_2 s_2 H locs ls h hI hl
      rw [hs2] at h
      refine lv_iload_n hx hb dX10_findsLines_2 rfl (lv_at hl 2 rfl) ?_
      refine lv_sipush (v := 288) hx hb dX10_findsLines_3 (by decide) ?_
      refine lv_icmp_ge (tgt := 42) hx hb dX10_findsLines_6 (by decide) (fun c_6 => ?_) (fun c_6 => ?_)
      · have h := (if_pos c_6).symm.trans h
        refine lv_iconst (v := 0) hx hb dX10_findsLines_42 (by decide) ?_
        refine lv_istore_n (lv' := [(2, .int 0), (0, .ref (a 0)), (1, .int x1)]) hx hb dX10_findsLines_43 rfl hl (by decide) rfl (fun ls hl => ?_)
        obtain ⟨lp44, hz44, hs44, h⟩ := gLoop2_in h
        have L44 : ∀ (n : Nat) (v2_44 : Int32) (s_44 : gSt) (H : Heap) (locs : List Loc) (ls : Array Slot), lp44 n v2_44 s_44 = some out → g_S 21 D a (mE a cI cZ s_44) s.heap H locs → lv_has ls 3 [(0, .ref (a 0)), (1, .int x1), (2, .int v2_44)] → W p l e rmX10_findsLines s m args below meth c H locs 0 0 Q (F0 m 44 ls []) := by
          intro n
          induction n with
          | zero => intro v2_44 s_44 H locs ls h; rw [hz44] at h; cases h
          | succ n ih44 =>
            intro v2_44 s_44 H locs ls h hI hl
            rw [hs44] at h
            refine lv_iload_n hx hb dX10_findsLines_44 rfl (lv_at hl 2 rfl) ?_
            refine lv_sipush (v := 144) hx hb dX10_findsLines_45 (by decide) ?_
            refine lv_icmp_ge (tgt := 89) hx hb dX10_findsLines_48 (by decide) (fun c_48 => ?_) (fun c_48 => ?_)
            · have h := (if_pos c_48).symm.trans h
              refine lv_iconst (v := 0) hx hb dX10_findsLines_89 (by decide) ?_
              refine lv_istore_n (lv' := [(2, .int 0), (0, .ref (a 0)), (1, .int x1)]) hx hb dX10_findsLines_90 rfl hl (by decide) rfl (fun ls hl => ?_)
              obtain ⟨lp91, hz91, hs91, h⟩ := gLoop2_in h
              have L91 : ∀ (n : Nat) (v2_91 : Int32) (s_91 : gSt) (H : Heap) (locs : List Loc) (ls : Array Slot), lp91 n v2_91 s_91 = some out → g_S 21 D a (mE a cI cZ s_91) s.heap H locs → lv_has ls 3 [(0, .ref (a 0)), (2, .int v2_91)] → W p l e rmX10_findsLines s m args below meth c H locs 0 0 Q (F0 m 91 ls []) := by
                intro n
                induction n with
                | zero => intro v2_91 s_91 H locs ls h; rw [hz91] at h; cases h
                | succ n ih91 =>
                  intro v2_91 s_91 H locs ls h hI hl
                  rw [hs91] at h
                  refine lv_iload_n hx hb dX10_findsLines_91 rfl (lv_at hl 1 rfl) ?_
                  refine lv_sipush (v := 288) hx hb dX10_findsLines_92 (by decide) ?_
                  refine lv_icmp_ge (tgt := 129) hx hb dX10_findsLines_95 (by decide) (fun c_95 => ?_) (fun c_95 => ?_)
                  · have h := (if_pos c_95).symm.trans h
                    have h := Option.some.inj h
                    subst h
                    exact hq _ _ _ _ hI dX10_findsLines_129
                  · have h := (if_neg c_95).symm.trans h
                    refine lv_aload_n hx hb dX10_findsLines_98 rfl (lv_at hl 0 rfl) ?_
                    refine g_get F hI (by decide) mE_0 rfl ku_X10 17 (by decide) kf_X10_47 rfl dX10_findsLines_99 ?_
                    refine lv_iload_n hx hb dX10_findsLines_102 rfl (lv_at hl 1 rfl) ?_
                    obtain ⟨g_103, h⟩ := g_guard h
                    refine g_iald F hI (by decide) mE_a12 0 rfl g_103 dX10_findsLines_103 ?_
                    refine lv_iconst (v := -1) hx hb dX10_findsLines_104 (by decide) ?_
                    obtain ⟨j123, hj123, h⟩ := gJoin1_in h
                    have J123 : ∀ (s_123 : gSt) (H : Heap) (locs : List Loc) (ls : Array Slot), j123 s_123 = some out → g_S 21 D a (mE a cI cZ s_123) s.heap H locs → lv_has ls 3 [(0, .ref (a 0)), (2, .int v2_91)] → W p l e rmX10_findsLines s m args below meth c H locs 0 0 Q (F0 m 123 ls []) := by
                      intro s_123 H locs ls h hI hl
                      rw [hj123] at h
                      refine lv_iinc (v := v2_91 + 1) (lv' := [(2, .int (v2_91 + 1)), (0, .ref (a 0))]) hx hb dX10_findsLines_123 hl (k := 1) rfl rfl (by decide) rfl (fun ls hl => ?_)
                      refine lv_goto (tgt := 91) hx hb dX10_findsLines_126 (by decide) ?_
                      exact ih91 _ _ _ _ _ h hI (lv_sub hl [1, 0] rfl)
                    refine lv_icmp_eq (tgt := 123) hx hb dX10_findsLines_105 (by decide) (fun c_105 => ?_) (fun c_105 => ?_)
                    · have h := (if_pos c_105).symm.trans h
                      exact J123 _ _ _ _ h hI (lv_sub hl [0, 1] rfl)
                    · have h := (if_neg c_105).symm.trans h
                      refine lv_aload_n hx hb dX10_findsLines_108 rfl (lv_at hl 0 rfl) ?_
                      refine g_get F hI (by decide) mE_0 rfl ku_X10 18 (by decide) kf_X10_50 rfl dX10_findsLines_109 ?_
                      refine lv_aload_n hx hb dX10_findsLines_112 rfl (lv_at hl 0 rfl) ?_
                      refine g_get F hI (by decide) mE_0 rfl ku_X10 17 (by decide) kf_X10_47 rfl dX10_findsLines_113 ?_
                      refine lv_iload_n hx hb dX10_findsLines_116 rfl (lv_at hl 1 rfl) ?_
                      obtain ⟨g_117, h⟩ := g_guard h
                      refine g_iald F hI (by decide) mE_a12 0 rfl g_117 dX10_findsLines_117 ?_
                      refine lv_dup2_11 hx hb dX10_findsLines_118 rfl rfl ?_
                      obtain ⟨g_119, h⟩ := g_guard h
                      refine g_iald F hI (by decide) mE_a13 0 rfl g_119 dX10_findsLines_119 ?_
                      refine lv_iconst (v := 1) hx hb dX10_findsLines_120 (by decide) ?_
                      refine lv_iadd hx hb dX10_findsLines_121 ?_
                      obtain ⟨g_122, h⟩ := g_guard h
                      refine g_iast (E' := mE a cI cZ (g_pa s_91 13 (g_ga s_91 12 v2_91) ((g_ga s_91 13 (g_ga s_91 12 v2_91)) + 1))) F hI (by decide) mE_a13 0 rfl g_122 rfl mE_sa dX10_findsLines_122 (fun H locs hI => ?_)
                      exact J123 _ _ _ _ h hI (lv_sub hl [0, 1] rfl)
              exact L91 _ _ _ _ _ _ h hI (lv_sub hl [1, 0] rfl)
            · have h := (if_neg c_48).symm.trans h
              refine lv_iload_n hx hb dX10_findsLines_51 rfl (lv_at hl 2 rfl) ?_
              refine lv_bipush (v := 12) hx hb dX10_findsLines_52 (by decide) ?_
              refine lv_irem hx hb dX10_findsLines_54 (by decide) ?_
              refine lv_iconst (v := 1) hx hb dX10_findsLines_55 (by decide) ?_
              refine lv_iadd hx hb dX10_findsLines_56 ?_
              refine lv_aload_n hx hb dX10_findsLines_57 rfl (lv_at hl 0 rfl) ?_
              refine g_get F hI (by decide) mE_0 rfl ku_X10 0 (by decide) kf_X10_71 rfl dX10_findsLines_58 ?_
              obtain ⟨j83, hj83, h⟩ := gJoin1_in h
              have J83 : ∀ (s_83 : gSt) (H : Heap) (locs : List Loc) (ls : Array Slot), j83 s_83 = some out → g_S 21 D a (mE a cI cZ s_83) s.heap H locs → lv_has ls 3 [(0, .ref (a 0)), (1, .int x1), (2, .int v2_44)] → W p l e rmX10_findsLines s m args below meth c H locs 0 0 Q (F0 m 83 ls []) := by
                intro s_83 H locs ls h hI hl
                rw [hj83] at h
                refine lv_iinc (v := v2_44 + 1) (lv' := [(2, .int (v2_44 + 1)), (0, .ref (a 0)), (1, .int x1)]) hx hb dX10_findsLines_83 hl (k := 2) rfl rfl (by decide) rfl (fun ls hl => ?_)
                refine lv_goto (tgt := 44) hx hb dX10_findsLines_86 (by decide) ?_
                exact ih44 _ _ _ _ _ h hI (lv_sub hl [1, 2, 0] rfl)
              refine lv_icmp_ge (tgt := 83) hx hb dX10_findsLines_61 (by decide) (fun c_61 => ?_) (fun c_61 => ?_)
              · have h := (if_pos c_61).symm.trans h
                exact J83 _ _ _ _ h hI (lv_sub hl [0, 1, 2] rfl)
              · have h := (if_neg c_61).symm.trans h
                refine lv_iload_n hx hb dX10_findsLines_64 rfl (lv_at hl 2 rfl) ?_
                refine lv_bipush (v := 12) hx hb dX10_findsLines_65 (by decide) ?_
                refine lv_idiv hx hb dX10_findsLines_67 (by decide) ?_
                refine lv_iconst (v := 1) hx hb dX10_findsLines_68 (by decide) ?_
                refine lv_iadd hx hb dX10_findsLines_69 ?_
                refine lv_aload_n hx hb dX10_findsLines_70 rfl (lv_at hl 0 rfl) ?_
                refine g_get F hI (by decide) mE_0 rfl ku_X10 1 (by decide) kf_X10_75 rfl dX10_findsLines_71 ?_
                refine lv_icmp_ge (tgt := 83) hx hb dX10_findsLines_74 (by decide) (fun c_74 => ?_) (fun c_74 => ?_)
                · have h := (if_pos c_74).symm.trans h
                  exact J83 _ _ _ _ h hI (lv_sub hl [0, 1, 2] rfl)
                · have h := (if_neg c_74).symm.trans h
                  refine lv_aload_n hx hb dX10_findsLines_77 rfl (lv_at hl 0 rfl) ?_
                  refine lv_iload_n hx hb dX10_findsLines_78 rfl (lv_at hl 2 rfl) ?_
                  refine lv_iload_n hx hb dX10_findsLines_79 rfl (lv_at hl 1 rfl) ?_
                  obtain ⟨s_80, e_80, h⟩ := gBind_in h
                  refine g_callVv (E' := mE a cI cZ s_80) (k0 := 0) (As := [.int v2_44, .int x1]) (rest := []) F hI (c_X10_joinsSquare l D a cI cZ F.2.2 N s_44 v2_44 x1 s_80 e_80) kb_X10_joinsSquare ki_X10_joinsSquare ks_X10_joinsSquare km_X10_113 ⟨Nat.le_of_ble_eq_true rfl, Nat.le_of_ble_eq_true rfl, rfl, rfl⟩ (by decide) mE_0 rfl hl.1 rfl (Nat.le_of_ble_eq_true rfl) ⟨Nat.zero_le _, Nat.zero_le _⟩ dX10_findsLines_80 (fun H locs hI => ?_)
                  exact J83 _ _ _ _ h hI (lv_sub hl [0, 1, 2] rfl)
        exact L44 _ _ _ _ _ _ h hI (lv_sub hl [1, 2, 0] rfl)
      · have h := (if_neg c_6).symm.trans h
        refine lv_aload_n hx hb dX10_findsLines_9 rfl (lv_at hl 0 rfl) ?_
        refine g_get F hI (by decide) mE_0 rfl ku_X10 17 (by decide) kf_X10_47 rfl dX10_findsLines_10 ?_
        refine lv_iload_n hx hb dX10_findsLines_13 rfl (lv_at hl 2 rfl) ?_
        refine lv_aload_n hx hb dX10_findsLines_14 rfl (lv_at hl 0 rfl) ?_
        refine lv_iload_n hx hb dX10_findsLines_15 rfl (lv_at hl 2 rfl) ?_
        refine lv_iload_n hx hb dX10_findsLines_16 rfl (lv_at hl 1 rfl) ?_
        obtain ⟨r_17, e_17, h⟩ := gBind_in h
        refine g_callVi (E' := mE a cI cZ s_2) (k0 := 0) (As := [.int v2_2, .int x1]) (rest := [.int v2_2, .ref (a 13)]) F hI (c_X10_isGap l D a cI cZ F.2.2 N s_2 v2_2 x1 r_17 e_17) kb_X10_isGap ki_X10_isGap ks_X10_isGap km_X10_106 ⟨Nat.le_of_ble_eq_true rfl, Nat.le_of_ble_eq_true rfl, rfl, rfl⟩ (by decide) mE_0 rfl hl.1 rfl (Nat.le_of_ble_eq_true rfl) ⟨Nat.zero_le _, Nat.zero_le _⟩ dX10_findsLines_17 (fun H locs hI => ?_)
        obtain ⟨j28, hj28, h⟩ := gJoin1_in h
        have J28 : ∀ (w0_28 : Int32) (H : Heap) (locs : List Loc) (ls : Array Slot), j28 w0_28 = some out → g_S 21 D a (mE a cI cZ s_2) s.heap H locs → lv_has ls 3 [(0, .ref (a 0)), (1, .int x1), (2, .int v2_2)] → W p l e rmX10_findsLines s m args below meth c H locs 0 0 Q (F0 m 28 ls [.int w0_28, .int v2_2, .ref (a 13)]) := by
          intro w0_28 H locs ls h hI hl
          rw [hj28] at h
          obtain ⟨g_28, h⟩ := g_guard h
          refine g_iast (E' := mE a cI cZ (g_pa s_2 12 v2_2 w0_28)) F hI (by decide) mE_a12 0 rfl g_28 rfl mE_sa dX10_findsLines_28 (fun H locs hI => ?_)
          refine lv_aload_n hx hb dX10_findsLines_29 rfl (lv_at hl 0 rfl) ?_
          refine g_get F hI (by decide) mE_0 rfl ku_X10 18 (by decide) kf_X10_50 rfl dX10_findsLines_30 ?_
          refine lv_iload_n hx hb dX10_findsLines_33 rfl (lv_at hl 2 rfl) ?_
          refine lv_iconst (v := 0) hx hb dX10_findsLines_34 (by decide) ?_
          obtain ⟨g_35, h⟩ := g_guard h
          refine g_iast (E' := mE a cI cZ (g_pa (g_pa s_2 12 v2_2 w0_28) 13 v2_2 0)) F hI (by decide) mE_a13 0 rfl g_35 rfl mE_sa dX10_findsLines_35 (fun H locs hI => ?_)
          refine lv_iinc (v := v2_2 + 1) (lv' := [(2, .int (v2_2 + 1)), (0, .ref (a 0)), (1, .int x1)]) hx hb dX10_findsLines_36 hl (k := 2) rfl rfl (by decide) rfl (fun ls hl => ?_)
          refine lv_goto (tgt := 2) hx hb dX10_findsLines_39 (by decide) ?_
          exact ih2 _ _ _ _ _ h hI (lv_sub hl [1, 2, 0] rfl)
        refine lv_if_eq (tgt := 27) hx hb dX10_findsLines_20 (by decide) (fun c_20 => ?_) (fun c_20 => ?_)
        · have h := (if_pos c_20).symm.trans h
          refine lv_iconst (v := -1) hx hb dX10_findsLines_27 (by decide) ?_
          exact J28 _ _ _ _ h hI (lv_sub hl [0, 1, 2] rfl)
        · have h := (if_neg c_20).symm.trans h
          refine lv_iload_n hx hb dX10_findsLines_23 rfl (lv_at hl 2 rfl) ?_
          refine lv_goto (tgt := 28) hx hb dX10_findsLines_24 (by decide) ?_
          exact J28 _ _ _ _ h hI (lv_sub hl [0, 1, 2] rfl)
  exact L2 _ _ _ _ _ _ h hI (lv_sub hl [1, 2, 0] rfl)
/-- SpurlineModel.isInside(I)Z -/
def f_X10_isInside (σ : gSt) (x1 : Int32) : Int32 :=
  if 144 ≤ x1 then
    (f_X10_in ((x1 - x1 / 144 * 144) - (x1 - x1 / 144 * 144) / 12 * 12) 1 ((σ.2 0) - 2)) &&& 1
  else
    (f_X10_in ((x1 - x1 / 144 * 144) / 12) 1 ((σ.2 1) - 2)) &&& 1
abbrev rmX10_isInside : Room := { frames := 1, cells := 0, slots := 0, locals := 22 }
theorem kb_X10_isInside : g_CB yX10_isInside cX10_isInside 3 (some .boolean) 1 := ⟨kc_X10_isInside, kn_X10, by decide +kernel⟩
set_option maxRecDepth 100000 in
set_option maxHeartbeats 4000000 in
theorem c_X10_isInside (l : Launch) (D : va_G) (a : Nat → Nat) (cI cZ : ClassId) (hj : g_Inj 21 a) (σ : gSt) (x1 : Int32) : Met l yX10_isInside (Cond.code yX10_isInside cX10_isInside 3 (some .boolean) :: gW) rmX10_isInside (g_Pc 21 D a (mE a cI cZ σ) [(cI, .int), (cZ, .boolean)] [.ref (a 0), .int x1]) (g_Qi 21 D a (mE a cI cZ σ) (f_X10_isInside σ x1)) 0 0 (g_Own 21 a) := by
  generalize hh : f_X10_isInside σ x1 = out
  refine g_metz (by decide) hj (Nat.le_of_ble_eq_true rfl) ?_
  intro p e s m args below meth c Q ls F hl hI hq
  have hx := F.1.1
  have hb := F.1.2.1
  have hl : lv_has ls 3 [(0, .ref (a 0)), (1, .int x1)] := hl
  have h := hh
  unfold f_X10_isInside at h
  refine lv_iload_n hx hb dX10_isInside_0 rfl (lv_at hl 1 rfl) ?_
  refine lv_sipush (v := 144) hx hb dX10_isInside_1 (by decide) ?_
  refine lv_irem hx hb dX10_isInside_4 (by decide) ?_
  refine lv_istore_n (lv' := [(2, .int (x1 - x1 / 144 * 144)), (0, .ref (a 0)), (1, .int x1)]) hx hb dX10_isInside_5 rfl hl (by decide) rfl (fun ls hl => ?_)
  refine lv_iload_n hx hb dX10_isInside_6 rfl (lv_at hl 2 rfl) ?_
  refine lv_sipush (v := 144) hx hb dX10_isInside_7 (by decide) ?_
  refine lv_icmp_ge (tgt := 30) hx hb dX10_isInside_10 (by decide) (fun c_10 => ?_) (fun c_10 => ?_)
  · have h := (if_pos c_10).symm.trans h
    refine lv_iload_n hx hb dX10_isInside_30 rfl (lv_at hl 0 rfl) ?_
    refine lv_bipush (v := 12) hx hb dX10_isInside_31 (by decide) ?_
    refine lv_irem hx hb dX10_isInside_33 (by decide) ?_
    refine lv_iconst (v := 1) hx hb dX10_isInside_34 (by decide) ?_
    refine lv_aload_n hx hb dX10_isInside_35 rfl (lv_at hl 1 rfl) ?_
    refine g_get F hI (by decide) mE_0 rfl ku_X10 0 (by decide) kf_X10_71 rfl dX10_isInside_36 ?_
    refine lv_iconst (v := 2) hx hb dX10_isInside_39 (by decide) ?_
    refine lv_isub hx hb dX10_isInside_40 ?_
    refine g_callSi (E' := mE a cI cZ σ) (As := [.int ((x1 - x1 / 144 * 144) - (x1 - x1 / 144 * 144) / 12 * 12), .int 1, .int ((σ.2 0) - 2)]) (rest := []) F hI (c_X10_in l D a cI cZ F.2.2 σ ((x1 - x1 / 144 * 144) - (x1 - x1 / 144 * 144) / 12 * 12) 1 ((σ.2 0) - 2)) kb_X10_in kt_X10_in km_X10_81 ⟨Nat.le_of_ble_eq_true rfl, Nat.le_of_ble_eq_true rfl, rfl, rfl⟩ hl.1 rfl (Nat.le_of_ble_eq_true rfl) ⟨Nat.zero_le _, Nat.zero_le _⟩ dX10_isInside_41 (fun H locs hI => ?_)
    subst h
    exact hq _ _ _ _ _ rfl hI dX10_isInside_44
  · have h := (if_neg c_10).symm.trans h
    refine lv_iload_n hx hb dX10_isInside_13 rfl (lv_at hl 0 rfl) ?_
    refine lv_bipush (v := 12) hx hb dX10_isInside_14 (by decide) ?_
    refine lv_idiv hx hb dX10_isInside_16 (by decide) ?_
    refine lv_iconst (v := 1) hx hb dX10_isInside_17 (by decide) ?_
    refine lv_aload_n hx hb dX10_isInside_18 rfl (lv_at hl 1 rfl) ?_
    refine g_get F hI (by decide) mE_0 rfl ku_X10 1 (by decide) kf_X10_75 rfl dX10_isInside_19 ?_
    refine lv_iconst (v := 2) hx hb dX10_isInside_22 (by decide) ?_
    refine lv_isub hx hb dX10_isInside_23 ?_
    refine g_callSi (E' := mE a cI cZ σ) (As := [.int ((x1 - x1 / 144 * 144) / 12), .int 1, .int ((σ.2 1) - 2)]) (rest := []) F hI (c_X10_in l D a cI cZ F.2.2 σ ((x1 - x1 / 144 * 144) / 12) 1 ((σ.2 1) - 2)) kb_X10_in kt_X10_in km_X10_81 ⟨Nat.le_of_ble_eq_true rfl, Nat.le_of_ble_eq_true rfl, rfl, rfl⟩ hl.1 rfl (Nat.le_of_ble_eq_true rfl) ⟨Nat.zero_le _, Nat.zero_le _⟩ dX10_isInside_24 (fun H locs hI => ?_)
    refine lv_goto (tgt := 44) hx hb dX10_isInside_27 (by decide) ?_
    subst h
    exact hq _ _ _ _ _ rfl hI dX10_isInside_44
/-- SpurlineModel.isLevel(I)Z -/
def f_X10_isLevel (x0 : Int32) : Int32 :=
  (f_X10_in x0 1 255) &&& 1
abbrev rmX10_isLevel : Room := { frames := 1, cells := 0, slots := 0, locals := 22 }
theorem kb_X10_isLevel : g_CB yX10_isLevel cX10_isLevel 1 (some .boolean) 1 := ⟨kc_X10_isLevel, kn_X10, by decide +kernel⟩
set_option maxRecDepth 100000 in
set_option maxHeartbeats 4000000 in
theorem c_X10_isLevel (l : Launch) (D : va_G) (a : Nat → Nat) (cI cZ : ClassId) (hj : g_Inj 21 a) (σ : gSt) (x0 : Int32) : Met l yX10_isLevel (Cond.code yX10_isLevel cX10_isLevel 1 (some .boolean) :: gW) rmX10_isLevel (g_Pc 21 D a (mE a cI cZ σ) [(cI, .int), (cZ, .boolean)] [.int x0]) (g_Qi 21 D a (mE a cI cZ σ) (f_X10_isLevel x0)) 0 0 (g_Own 21 a) := by
  generalize hh : f_X10_isLevel x0 = out
  refine g_metz (by decide) hj (Nat.le_of_ble_eq_true rfl) ?_
  intro p e s m args below meth c Q ls F hl hI hq
  have hx := F.1.1
  have hb := F.1.2.1
  have hl : lv_has ls 1 [(0, .int x0)] := hl
  have h := hh
  unfold f_X10_isLevel at h
  refine lv_iload_n hx hb dX10_isLevel_0 rfl (lv_at hl 0 rfl) ?_
  refine lv_iconst (v := 1) hx hb dX10_isLevel_1 (by decide) ?_
  refine lv_sipush (v := 255) hx hb dX10_isLevel_2 (by decide) ?_
  refine g_callSi (E' := mE a cI cZ σ) (As := [.int x0, .int 1, .int 255]) (rest := []) F hI (c_X10_in l D a cI cZ F.2.2 σ x0 1 255) kb_X10_in kt_X10_in km_X10_81 ⟨Nat.le_of_ble_eq_true rfl, Nat.le_of_ble_eq_true rfl, rfl, rfl⟩ hl.1 rfl (Nat.le_of_ble_eq_true rfl) ⟨Nat.zero_le _, Nat.zero_le _⟩ dX10_isLevel_5 (fun H locs hI => ?_)
  subst h
  exact hq _ _ _ _ _ rfl hI dX10_isLevel_8
/-- SpurlineModel.lines(I)I -/
def f_X10_lines (N : Nat) (σ : gSt) (x1 : Int32) : Option (Int32 × gSt) :=
  if (f_X10_asked σ (f_X10_isLevel x1)).1 = 0 then
    some (0, (f_X10_asked σ (f_X10_isLevel x1)).2)
  else
    (f_X10_findsLines N ((f_X10_asked σ (f_X10_isLevel x1)).2) x1).bind (fun (s_15 : gSt) =>
    gLoop2 (fun self20 (v2_20 : Int32) (v3_20 : Int32) =>
      if 288 ≤ v3_20 then
        some (v2_20, s_15)
      else
        if v3_20 < 0 ∨ 288 ≤ v3_20.toNatClampNeg then none else
        gJoin1 (fun (w0_42 : Int32) =>
            self20 (v2_20 + w0_42) (v3_20 + 1)) (fun j42 =>
          if g_ga s_15 13 v3_20 ≤ 0 then
            j42 0
          else
            j42 1)) N 0 0)
abbrev rmX10_lines : Room := { frames := 5, cells := 0, slots := 0, locals := 121 }
theorem kb_X10_lines : g_CB yX10_lines cX10_lines 4 (some .int) 1 := ⟨kc_X10_lines, kn_X10, by decide +kernel⟩
set_option maxRecDepth 100000 in
set_option maxHeartbeats 4000000 in
theorem c_X10_lines (l : Launch) (D : va_G) (a : Nat → Nat) (cI cZ : ClassId) (hj : g_Inj 21 a) (N : Nat) (σ : gSt) (x1 : Int32) (out : Int32 × gSt) (hh : f_X10_lines N σ x1 = some out) : Met l yX10_lines (Cond.code yX10_lines cX10_lines 4 (some .int) :: gW) rmX10_lines (g_Pc 21 D a (mE a cI cZ σ) [(cI, .int), (cZ, .boolean)] [.ref (a 0), .int x1]) (g_Qi 21 D a (mE a cI cZ out.2) out.1) 0 0 (g_Own 21 a) := by
  refine g_meti (by decide) hj (Nat.le_of_ble_eq_true rfl) ?_
  intro p e s m args below meth c Q ls F hl hI hq
  have hx := F.1.1
  have hb := F.1.2.1
  have hl : lv_has ls 4 [(0, .ref (a 0)), (1, .int x1)] := hl
  have h := hh
  unfold f_X10_lines at h
  refine lv_iconst (v := 0) hx hb dX10_lines_0 (by decide) ?_
  refine lv_istore_n (lv' := [(2, .int 0), (0, .ref (a 0)), (1, .int x1)]) hx hb dX10_lines_1 rfl hl (by decide) rfl (fun ls hl => ?_)
  refine lv_aload_n hx hb dX10_lines_2 rfl (lv_at hl 1 rfl) ?_
  refine lv_iload_n hx hb dX10_lines_3 rfl (lv_at hl 2 rfl) ?_
  refine g_callSi (E' := mE a cI cZ σ) (As := [.int x1]) (rest := [.ref (a 0)]) F hI (c_X10_isLevel l D a cI cZ F.2.2 σ x1) kb_X10_isLevel kt_X10_isLevel km_X10_116 ⟨Nat.le_of_ble_eq_true rfl, Nat.le_of_ble_eq_true rfl, rfl, rfl⟩ hl.1 rfl (Nat.le_of_ble_eq_true rfl) ⟨Nat.zero_le _, Nat.zero_le _⟩ dX10_lines_4 (fun H locs hI => ?_)
  refine g_callVi (E' := mE a cI cZ ((f_X10_asked σ (f_X10_isLevel x1)).2)) (k0 := 0) (As := [.int (f_X10_isLevel x1)]) (rest := []) F hI (c_X10_asked l D a cI cZ F.2.2 σ (f_X10_isLevel x1)) kb_X10_asked ki_X10_asked ks_X10_asked km_X10_103 ⟨Nat.le_of_ble_eq_true rfl, Nat.le_of_ble_eq_true rfl, rfl, rfl⟩ (by decide) mE_0 rfl hl.1 rfl (Nat.le_of_ble_eq_true rfl) ⟨Nat.zero_le _, Nat.zero_le _⟩ dX10_lines_7 (fun H locs hI => ?_)
  refine lv_if_eq (tgt := 50) hx hb dX10_lines_10 (by decide) (fun c_10 => ?_) (fun c_10 => ?_)
  · have h := (if_pos c_10).symm.trans h
    refine lv_iload_n hx hb dX10_lines_50 rfl (lv_at hl 0 rfl) ?_
    have h := Option.some.inj h
    subst h
    exact hq _ _ _ _ hI dX10_lines_51
  · have h := (if_neg c_10).symm.trans h
    refine lv_aload_n hx hb dX10_lines_13 rfl (lv_at hl 1 rfl) ?_
    refine lv_iload_n hx hb dX10_lines_14 rfl (lv_at hl 2 rfl) ?_
    obtain ⟨s_15, e_15, h⟩ := gBind_in h
    refine g_callVv (E' := mE a cI cZ s_15) (k0 := 0) (As := [.int x1]) (rest := []) F hI (c_X10_findsLines l D a cI cZ F.2.2 N ((f_X10_asked σ (f_X10_isLevel x1)).2) x1 s_15 e_15) kb_X10_findsLines ki_X10_findsLines ks_X10_findsLines km_X10_120 ⟨Nat.le_of_ble_eq_true rfl, Nat.le_of_ble_eq_true rfl, rfl, rfl⟩ (by decide) mE_0 rfl hl.1 rfl (Nat.le_of_ble_eq_true rfl) ⟨Nat.zero_le _, Nat.zero_le _⟩ dX10_lines_15 (fun H locs hI => ?_)
    refine lv_iconst (v := 0) hx hb dX10_lines_18 (by decide) ?_
    refine lv_istore_n (lv' := [(3, .int 0), (2, .int 0), (0, .ref (a 0)), (1, .int x1)]) hx hb dX10_lines_19 rfl hl (by decide) rfl (fun ls hl => ?_)
    obtain ⟨lp20, hz20, hs20, h⟩ := gLoop2_in h
    have L20 : ∀ (n : Nat) (v2_20 : Int32) (v3_20 : Int32) (H : Heap) (locs : List Loc) (ls : Array Slot), lp20 n v2_20 v3_20 = some out → g_S 21 D a (mE a cI cZ s_15) s.heap H locs → lv_has ls 4 [(0, .ref (a 0)), (2, .int v2_20), (3, .int v3_20)] → W p l e rmX10_lines s m args below meth c H locs 0 0 Q (F0 m 20 ls []) := by
      intro n
      induction n with
      | zero => intro v2_20 v3_20 H locs ls h; rw [hz20] at h; cases h
      | succ n ih20 =>
        intro v2_20 v3_20 H locs ls h hI hl
        rw [hs20] at h
        refine lv_iload_n hx hb dX10_lines_20 rfl (lv_at hl 2 rfl) ?_
        refine lv_sipush (v := 288) hx hb dX10_lines_21 (by decide) ?_
        refine lv_icmp_ge (tgt := 50) hx hb dX10_lines_24 (by decide) (fun c_24 => ?_) (fun c_24 => ?_)
        · have h := (if_pos c_24).symm.trans h
          refine lv_iload_n hx hb dX10_lines_50 rfl (lv_at hl 1 rfl) ?_
          have h := Option.some.inj h
          subst h
          exact hq _ _ _ _ hI dX10_lines_51
        · have h := (if_neg c_24).symm.trans h
          refine lv_iload_n hx hb dX10_lines_27 rfl (lv_at hl 1 rfl) ?_
          refine lv_aload_n hx hb dX10_lines_28 rfl (lv_at hl 0 rfl) ?_
          refine g_get F hI (by decide) mE_0 rfl ku_X10 18 (by decide) kf_X10_50 rfl dX10_lines_29 ?_
          refine lv_iload_n hx hb dX10_lines_32 rfl (lv_at hl 2 rfl) ?_
          obtain ⟨g_33, h⟩ := g_guard h
          refine g_iald F hI (by decide) mE_a13 0 rfl g_33 dX10_lines_33 ?_
          obtain ⟨j42, hj42, h⟩ := gJoin1_in h
          have J42 : ∀ (w0_42 : Int32) (H : Heap) (locs : List Loc) (ls : Array Slot), j42 w0_42 = some out → g_S 21 D a (mE a cI cZ s_15) s.heap H locs → lv_has ls 4 [(0, .ref (a 0)), (3, .int v3_20)] → W p l e rmX10_lines s m args below meth c H locs 0 0 Q (F0 m 42 ls [.int w0_42, .int v2_20]) := by
            intro w0_42 H locs ls h hI hl
            rw [hj42] at h
            refine lv_iadd hx hb dX10_lines_42 ?_
            refine lv_istore_n (lv' := [(2, .int (v2_20 + w0_42)), (0, .ref (a 0)), (3, .int v3_20)]) hx hb dX10_lines_43 rfl hl (by decide) rfl (fun ls hl => ?_)
            refine lv_iinc (v := v3_20 + 1) (lv' := [(3, .int (v3_20 + 1)), (2, .int (v2_20 + w0_42)), (0, .ref (a 0))]) hx hb dX10_lines_44 hl (k := 2) rfl rfl (by decide) rfl (fun ls hl => ?_)
            refine lv_goto (tgt := 20) hx hb dX10_lines_47 (by decide) ?_
            exact ih20 _ _ _ _ _ h hI (lv_sub hl [2, 1, 0] rfl)
          refine lv_if_le (tgt := 41) hx hb dX10_lines_34 (by decide) (fun c_34 => ?_) (fun c_34 => ?_)
          · have h := (if_pos c_34).symm.trans h
            refine lv_iconst (v := 0) hx hb dX10_lines_41 (by decide) ?_
            exact J42 _ _ _ _ h hI (lv_sub hl [0, 2] rfl)
          · have h := (if_neg c_34).symm.trans h
            refine lv_iconst (v := 1) hx hb dX10_lines_37 (by decide) ?_
            refine lv_goto (tgt := 42) hx hb dX10_lines_38 (by decide) ?_
            exact J42 _ _ _ _ h hI (lv_sub hl [0, 2] rfl)
    exact L20 _ _ _ _ _ _ h hI (lv_sub hl [2, 1, 0] rfl)
/-- SpurlineModel.rings(I)I -/
def f_X10_rings (N : Nat) (σ : gSt) (x1 : Int32) : Option (Int32 × gSt) :=
  if (f_X10_asked σ (f_X10_isLevel x1)).1 = 0 then
    some (0, (f_X10_asked σ (f_X10_isLevel x1)).2)
  else
    (f_X10_findsLines N ((f_X10_asked σ (f_X10_isLevel x1)).2) x1).bind (fun (s_15 : gSt) =>
    gLoop2 (fun self20 (v2_20 : Int32) (v3_20 : Int32) =>
      if 288 ≤ v3_20 then
        some (v2_20, s_15)
      else
        if v3_20 < 0 ∨ 288 ≤ v3_20.toNatClampNeg then none else
        gJoin1 (fun (w0_41 : Int32) =>
            gLoop2 (fun self46 (v4_46 : Int32) (v5_46 : Int32) =>
              if 288 ≤ v5_46 then
                gJoin1 (fun (w0_103 : Int32) =>
                    self20 (v2_20 + w0_103) (v3_20 + 1)) (fun j103 =>
                  if v4_46 = 0 then
                    j103 0
                  else
                    j103 1)
              else
                gJoin1 (fun (w0_84 : Int32) =>
                    self46 w0_84 (v5_46 + 1)) (fun j84 =>
                gJoin0 (
                    j84 0) (fun j83 =>
                  if v4_46 = 0 then
                    j83
                  else
                    if v5_46 < 0 ∨ 288 ≤ v5_46.toNatClampNeg then none else
                    gJoin0 (
                        j84 1) (fun j79 =>
                      if g_ga s_15 12 v5_46 = v3_20 then
                        if f_X10_isInside s_15 v5_46 = 0 then
                          j83
                        else
                          j79
                      else
                        j79)))) N w0_41 0) (fun j41 =>
          if g_ga s_15 13 v3_20 ≤ 0 then
            j41 0
          else
            j41 1)) N 0 0)
abbrev rmX10_rings : Room := { frames := 5, cells := 0, slots := 0, locals := 121 }
theorem kb_X10_rings : g_CB yX10_rings cX10_rings 6 (some .int) 1 := ⟨kc_X10_rings, kn_X10, by decide +kernel⟩
set_option maxRecDepth 100000 in
set_option maxHeartbeats 4000000 in
theorem c_X10_rings (l : Launch) (D : va_G) (a : Nat → Nat) (cI cZ : ClassId) (hj : g_Inj 21 a) (N : Nat) (σ : gSt) (x1 : Int32) (out : Int32 × gSt) (hh : f_X10_rings N σ x1 = some out) : Met l yX10_rings (Cond.code yX10_rings cX10_rings 6 (some .int) :: gW) rmX10_rings (g_Pc 21 D a (mE a cI cZ σ) [(cI, .int), (cZ, .boolean)] [.ref (a 0), .int x1]) (g_Qi 21 D a (mE a cI cZ out.2) out.1) 0 0 (g_Own 21 a) := by
  refine g_meti (by decide) hj (Nat.le_of_ble_eq_true rfl) ?_
  intro p e s m args below meth c Q ls F hl hI hq
  have hx := F.1.1
  have hb := F.1.2.1
  have hl : lv_has ls 6 [(0, .ref (a 0)), (1, .int x1)] := hl
  have h := hh
  unfold f_X10_rings at h
  refine lv_iconst (v := 0) hx hb dX10_rings_0 (by decide) ?_
  refine lv_istore_n (lv' := [(2, .int 0), (0, .ref (a 0)), (1, .int x1)]) hx hb dX10_rings_1 rfl hl (by decide) rfl (fun ls hl => ?_)
  refine lv_aload_n hx hb dX10_rings_2 rfl (lv_at hl 1 rfl) ?_
  refine lv_iload_n hx hb dX10_rings_3 rfl (lv_at hl 2 rfl) ?_
  refine g_callSi (E' := mE a cI cZ σ) (As := [.int x1]) (rest := [.ref (a 0)]) F hI (c_X10_isLevel l D a cI cZ F.2.2 σ x1) kb_X10_isLevel kt_X10_isLevel km_X10_116 ⟨Nat.le_of_ble_eq_true rfl, Nat.le_of_ble_eq_true rfl, rfl, rfl⟩ hl.1 rfl (Nat.le_of_ble_eq_true rfl) ⟨Nat.zero_le _, Nat.zero_le _⟩ dX10_rings_4 (fun H locs hI => ?_)
  refine g_callVi (E' := mE a cI cZ ((f_X10_asked σ (f_X10_isLevel x1)).2)) (k0 := 0) (As := [.int (f_X10_isLevel x1)]) (rest := []) F hI (c_X10_asked l D a cI cZ F.2.2 σ (f_X10_isLevel x1)) kb_X10_asked ki_X10_asked ks_X10_asked km_X10_103 ⟨Nat.le_of_ble_eq_true rfl, Nat.le_of_ble_eq_true rfl, rfl, rfl⟩ (by decide) mE_0 rfl hl.1 rfl (Nat.le_of_ble_eq_true rfl) ⟨Nat.zero_le _, Nat.zero_le _⟩ dX10_rings_7 (fun H locs hI => ?_)
  refine lv_if_eq (tgt := 111) hx hb dX10_rings_10 (by decide) (fun c_10 => ?_) (fun c_10 => ?_)
  · have h := (if_pos c_10).symm.trans h
    refine lv_iload_n hx hb dX10_rings_111 rfl (lv_at hl 0 rfl) ?_
    have h := Option.some.inj h
    subst h
    exact hq _ _ _ _ hI dX10_rings_112
  · have h := (if_neg c_10).symm.trans h
    refine lv_aload_n hx hb dX10_rings_13 rfl (lv_at hl 1 rfl) ?_
    refine lv_iload_n hx hb dX10_rings_14 rfl (lv_at hl 2 rfl) ?_
    obtain ⟨s_15, e_15, h⟩ := gBind_in h
    refine g_callVv (E' := mE a cI cZ s_15) (k0 := 0) (As := [.int x1]) (rest := []) F hI (c_X10_findsLines l D a cI cZ F.2.2 N ((f_X10_asked σ (f_X10_isLevel x1)).2) x1 s_15 e_15) kb_X10_findsLines ki_X10_findsLines ks_X10_findsLines km_X10_120 ⟨Nat.le_of_ble_eq_true rfl, Nat.le_of_ble_eq_true rfl, rfl, rfl⟩ (by decide) mE_0 rfl hl.1 rfl (Nat.le_of_ble_eq_true rfl) ⟨Nat.zero_le _, Nat.zero_le _⟩ dX10_rings_15 (fun H locs hI => ?_)
    refine lv_iconst (v := 0) hx hb dX10_rings_18 (by decide) ?_
    refine lv_istore_n (lv' := [(3, .int 0), (2, .int 0), (0, .ref (a 0)), (1, .int x1)]) hx hb dX10_rings_19 rfl hl (by decide) rfl (fun ls hl => ?_)
    obtain ⟨lp20, hz20, hs20, h⟩ := gLoop2_in h
    have L20 : ∀ (n : Nat) (v2_20 : Int32) (v3_20 : Int32) (H : Heap) (locs : List Loc) (ls : Array Slot), lp20 n v2_20 v3_20 = some out → g_S 21 D a (mE a cI cZ s_15) s.heap H locs → lv_has ls 6 [(0, .ref (a 0)), (2, .int v2_20), (3, .int v3_20)] → W p l e rmX10_rings s m args below meth c H locs 0 0 Q (F0 m 20 ls []) := by
      intro n
      induction n with
      | zero => intro v2_20 v3_20 H locs ls h; rw [hz20] at h; cases h
      | succ n ih20 =>
        intro v2_20 v3_20 H locs ls h hI hl
        rw [hs20] at h
        refine lv_iload_n hx hb dX10_rings_20 rfl (lv_at hl 2 rfl) ?_
        refine lv_sipush (v := 288) hx hb dX10_rings_21 (by decide) ?_
        refine lv_icmp_ge (tgt := 111) hx hb dX10_rings_24 (by decide) (fun c_24 => ?_) (fun c_24 => ?_)
        · have h := (if_pos c_24).symm.trans h
          refine lv_iload_n hx hb dX10_rings_111 rfl (lv_at hl 1 rfl) ?_
          have h := Option.some.inj h
          subst h
          exact hq _ _ _ _ hI dX10_rings_112
        · have h := (if_neg c_24).symm.trans h
          refine lv_aload_n hx hb dX10_rings_27 rfl (lv_at hl 0 rfl) ?_
          refine g_get F hI (by decide) mE_0 rfl ku_X10 18 (by decide) kf_X10_50 rfl dX10_rings_28 ?_
          refine lv_iload_n hx hb dX10_rings_31 rfl (lv_at hl 2 rfl) ?_
          obtain ⟨g_32, h⟩ := g_guard h
          refine g_iald F hI (by decide) mE_a13 0 rfl g_32 dX10_rings_32 ?_
          obtain ⟨j41, hj41, h⟩ := gJoin1_in h
          have J41 : ∀ (w0_41 : Int32) (H : Heap) (locs : List Loc) (ls : Array Slot), j41 w0_41 = some out → g_S 21 D a (mE a cI cZ s_15) s.heap H locs → lv_has ls 6 [(0, .ref (a 0)), (2, .int v2_20), (3, .int v3_20)] → W p l e rmX10_rings s m args below meth c H locs 0 0 Q (F0 m 41 ls [.int w0_41]) := by
            intro w0_41 H locs ls h hI hl
            rw [hj41] at h
            refine lv_istore (lv' := [(4, .int w0_41), (0, .ref (a 0)), (2, .int v2_20), (3, .int v3_20)]) hx hb dX10_rings_41 hl (by decide) rfl (fun ls hl => ?_)
            refine lv_iconst (v := 0) hx hb dX10_rings_43 (by decide) ?_
            refine lv_istore (lv' := [(5, .int 0), (4, .int w0_41), (0, .ref (a 0)), (2, .int v2_20), (3, .int v3_20)]) hx hb dX10_rings_44 hl (by decide) rfl (fun ls hl => ?_)
            obtain ⟨lp46, hz46, hs46, h⟩ := gLoop2_in h
            have L46 : ∀ (n : Nat) (v4_46 : Int32) (v5_46 : Int32) (H : Heap) (locs : List Loc) (ls : Array Slot), lp46 n v4_46 v5_46 = some out → g_S 21 D a (mE a cI cZ s_15) s.heap H locs → lv_has ls 6 [(0, .ref (a 0)), (2, .int v2_20), (3, .int v3_20), (4, .int v4_46), (5, .int v5_46)] → W p l e rmX10_rings s m args below meth c H locs 0 0 Q (F0 m 46 ls []) := by
              intro n
              induction n with
              | zero => intro v4_46 v5_46 H locs ls h; rw [hz46] at h; cases h
              | succ n ih46 =>
                intro v4_46 v5_46 H locs ls h hI hl
                rw [hs46] at h
                refine lv_iload hx hb dX10_rings_46 (lv_at hl 4 rfl) ?_
                refine lv_sipush (v := 288) hx hb dX10_rings_48 (by decide) ?_
                refine lv_icmp_ge (tgt := 92) hx hb dX10_rings_51 (by decide) (fun c_51 => ?_) (fun c_51 => ?_)
                · have h := (if_pos c_51).symm.trans h
                  refine lv_iload_n hx hb dX10_rings_92 rfl (lv_at hl 1 rfl) ?_
                  refine lv_iload hx hb dX10_rings_93 (lv_at hl 3 rfl) ?_
                  obtain ⟨j103, hj103, h⟩ := gJoin1_in h
                  have J103 : ∀ (w0_103 : Int32) (H : Heap) (locs : List Loc) (ls : Array Slot), j103 w0_103 = some out → g_S 21 D a (mE a cI cZ s_15) s.heap H locs → lv_has ls 6 [(0, .ref (a 0)), (3, .int v3_20)] → W p l e rmX10_rings s m args below meth c H locs 0 0 Q (F0 m 103 ls [.int w0_103, .int v2_20]) := by
                    intro w0_103 H locs ls h hI hl
                    rw [hj103] at h
                    refine lv_iadd hx hb dX10_rings_103 ?_
                    refine lv_istore_n (lv' := [(2, .int (v2_20 + w0_103)), (0, .ref (a 0)), (3, .int v3_20)]) hx hb dX10_rings_104 rfl hl (by decide) rfl (fun ls hl => ?_)
                    refine lv_iinc (v := v3_20 + 1) (lv' := [(3, .int (v3_20 + 1)), (2, .int (v2_20 + w0_103)), (0, .ref (a 0))]) hx hb dX10_rings_105 hl (k := 2) rfl rfl (by decide) rfl (fun ls hl => ?_)
                    refine lv_goto (tgt := 20) hx hb dX10_rings_108 (by decide) ?_
                    exact ih20 _ _ _ _ _ h hI (lv_sub hl [2, 1, 0] rfl)
                  refine lv_if_eq (tgt := 102) hx hb dX10_rings_95 (by decide) (fun c_95 => ?_) (fun c_95 => ?_)
                  · have h := (if_pos c_95).symm.trans h
                    refine lv_iconst (v := 0) hx hb dX10_rings_102 (by decide) ?_
                    exact J103 _ _ _ _ h hI (lv_sub hl [0, 2] rfl)
                  · have h := (if_neg c_95).symm.trans h
                    refine lv_iconst (v := 1) hx hb dX10_rings_98 (by decide) ?_
                    refine lv_goto (tgt := 103) hx hb dX10_rings_99 (by decide) ?_
                    exact J103 _ _ _ _ h hI (lv_sub hl [0, 2] rfl)
                · have h := (if_neg c_51).symm.trans h
                  refine lv_iload hx hb dX10_rings_54 (lv_at hl 3 rfl) ?_
                  obtain ⟨j84, hj84, h⟩ := gJoin1_in h
                  have J84 : ∀ (w0_84 : Int32) (H : Heap) (locs : List Loc) (ls : Array Slot), j84 w0_84 = some out → g_S 21 D a (mE a cI cZ s_15) s.heap H locs → lv_has ls 6 [(0, .ref (a 0)), (2, .int v2_20), (3, .int v3_20), (5, .int v5_46)] → W p l e rmX10_rings s m args below meth c H locs 0 0 Q (F0 m 84 ls [.int w0_84]) := by
                    intro w0_84 H locs ls h hI hl
                    rw [hj84] at h
                    refine lv_istore (lv' := [(4, .int w0_84), (0, .ref (a 0)), (2, .int v2_20), (3, .int v3_20), (5, .int v5_46)]) hx hb dX10_rings_84 hl (by decide) rfl (fun ls hl => ?_)
                    refine lv_iinc (v := v5_46 + 1) (lv' := [(5, .int (v5_46 + 1)), (4, .int w0_84), (0, .ref (a 0)), (2, .int v2_20), (3, .int v3_20)]) hx hb dX10_rings_86 hl (k := 4) rfl rfl (by decide) rfl (fun ls hl => ?_)
                    refine lv_goto (tgt := 46) hx hb dX10_rings_89 (by decide) ?_
                    exact ih46 _ _ _ _ _ h hI (lv_sub hl [2, 3, 4, 1, 0] rfl)
                  obtain ⟨j83, hj83, h⟩ := gJoin0_in h
                  have J83 : ∀ (H : Heap) (locs : List Loc) (ls : Array Slot), j83  = some out → g_S 21 D a (mE a cI cZ s_15) s.heap H locs → lv_has ls 6 [(0, .ref (a 0)), (2, .int v2_20), (3, .int v3_20), (5, .int v5_46)] → W p l e rmX10_rings s m args below meth c H locs 0 0 Q (F0 m 83 ls []) := by
                    intro  H locs ls h hI hl
                    rw [hj83] at h
                    refine lv_iconst (v := 0) hx hb dX10_rings_83 (by decide) ?_
                    exact J84 _ _ _ _ h hI (lv_sub hl [0, 1, 2, 3] rfl)
                  refine lv_if_eq (tgt := 83) hx hb dX10_rings_56 (by decide) (fun c_56 => ?_) (fun c_56 => ?_)
                  · have h := (if_pos c_56).symm.trans h
                    exact J83 _ _ _ h hI (lv_sub hl [0, 1, 2, 4] rfl)
                  · have h := (if_neg c_56).symm.trans h
                    refine lv_aload_n hx hb dX10_rings_59 rfl (lv_at hl 0 rfl) ?_
                    refine g_get F hI (by decide) mE_0 rfl ku_X10 17 (by decide) kf_X10_47 rfl dX10_rings_60 ?_
                    refine lv_iload hx hb dX10_rings_63 (lv_at hl 4 rfl) ?_
                    obtain ⟨g_65, h⟩ := g_guard h
                    refine g_iald F hI (by decide) mE_a12 0 rfl g_65 dX10_rings_65 ?_
                    refine lv_iload_n hx hb dX10_rings_66 rfl (lv_at hl 2 rfl) ?_
                    obtain ⟨j79, hj79, h⟩ := gJoin0_in h
                    have J79 : ∀ (H : Heap) (locs : List Loc) (ls : Array Slot), j79  = some out → g_S 21 D a (mE a cI cZ s_15) s.heap H locs → lv_has ls 6 [(0, .ref (a 0)), (2, .int v2_20), (3, .int v3_20), (5, .int v5_46)] → W p l e rmX10_rings s m args below meth c H locs 0 0 Q (F0 m 79 ls []) := by
                      intro  H locs ls h hI hl
                      rw [hj79] at h
                      refine lv_iconst (v := 1) hx hb dX10_rings_79 (by decide) ?_
                      refine lv_goto (tgt := 84) hx hb dX10_rings_80 (by decide) ?_
                      exact J84 _ _ _ _ h hI (lv_sub hl [0, 1, 2, 3] rfl)
                    refine lv_icmp_ne (tgt := 79) hx hb dX10_rings_67 (by decide) (fun c_67 => ?_) (fun c_67 => ?_)
                    · have h := (if_neg c_67).symm.trans h
                      exact J79 _ _ _ h hI (lv_sub hl [0, 1, 2, 4] rfl)
                    · have h := (if_pos c_67).symm.trans h
                      refine lv_aload_n hx hb dX10_rings_70 rfl (lv_at hl 0 rfl) ?_
                      refine lv_iload hx hb dX10_rings_71 (lv_at hl 4 rfl) ?_
                      refine g_callVi (E' := mE a cI cZ s_15) (k0 := 0) (As := [.int v5_46]) (rest := []) F hI (c_X10_isInside l D a cI cZ F.2.2 s_15 v5_46) kb_X10_isInside ki_X10_isInside ks_X10_isInside km_X10_124 ⟨Nat.le_of_ble_eq_true rfl, Nat.le_of_ble_eq_true rfl, rfl, rfl⟩ (by decide) mE_0 rfl hl.1 rfl (Nat.le_of_ble_eq_true rfl) ⟨Nat.zero_le _, Nat.zero_le _⟩ dX10_rings_73 (fun H locs hI => ?_)
                      refine lv_if_eq (tgt := 83) hx hb dX10_rings_76 (by decide) (fun c_76 => ?_) (fun c_76 => ?_)
                      · have h := (if_pos c_76).symm.trans h
                        exact J83 _ _ _ h hI (lv_sub hl [0, 1, 2, 4] rfl)
                      · have h := (if_neg c_76).symm.trans h
                        exact J79 _ _ _ h hI (lv_sub hl [0, 1, 2, 4] rfl)
            exact L46 _ _ _ _ _ _ h hI (lv_sub hl [2, 3, 4, 1, 0] rfl)
          refine lv_if_le (tgt := 40) hx hb dX10_rings_33 (by decide) (fun c_33 => ?_) (fun c_33 => ?_)
          · have h := (if_pos c_33).symm.trans h
            refine lv_iconst (v := 0) hx hb dX10_rings_40 (by decide) ?_
            exact J41 _ _ _ _ h hI (lv_sub hl [0, 1, 2] rfl)
          · have h := (if_neg c_33).symm.trans h
            refine lv_iconst (v := 1) hx hb dX10_rings_36 (by decide) ?_
            refine lv_goto (tgt := 41) hx hb dX10_rings_37 (by decide) ?_
            exact J41 _ _ _ _ h hI (lv_sub hl [0, 1, 2] rfl)
    exact L20 _ _ _ _ _ _ h hI (lv_sub hl [2, 1, 0] rfl)
/-- SpurlineModel.longest(I)I -/
def f_X10_longest (N : Nat) (σ : gSt) (x1 : Int32) : Option (Int32 × gSt) :=
  if (f_X10_asked σ (f_X10_isLevel x1)).1 = 0 then
    some (0, (f_X10_asked σ (f_X10_isLevel x1)).2)
  else
    (f_X10_findsLines N ((f_X10_asked σ (f_X10_isLevel x1)).2) x1).bind (fun (s_15 : gSt) =>
    gLoop2 (fun self20 (v2_20 : Int32) (v3_20 : Int32) =>
      if 288 ≤ v3_20 then
        some (v2_20, s_15)
      else
        if v3_20 < 0 ∨ 288 ≤ v3_20.toNatClampNeg then none else
        gJoin1 (fun (w0_47 : Int32) =>
            self20 w0_47 (v3_20 + 1)) (fun j47 =>
          if g_ga s_15 13 v3_20 ≤ v2_20 then
            j47 v2_20
          else
            if v3_20 < 0 ∨ 288 ≤ v3_20.toNatClampNeg then none else
            j47 (g_ga s_15 13 v3_20))) N 0 0)
abbrev rmX10_longest : Room := { frames := 5, cells := 0, slots := 0, locals := 121 }
theorem kb_X10_longest : g_CB yX10_longest cX10_longest 4 (some .int) 1 := ⟨kc_X10_longest, kn_X10, by decide +kernel⟩
set_option maxRecDepth 100000 in
set_option maxHeartbeats 4000000 in
theorem c_X10_longest (l : Launch) (D : va_G) (a : Nat → Nat) (cI cZ : ClassId) (hj : g_Inj 21 a) (N : Nat) (σ : gSt) (x1 : Int32) (out : Int32 × gSt) (hh : f_X10_longest N σ x1 = some out) : Met l yX10_longest (Cond.code yX10_longest cX10_longest 4 (some .int) :: gW) rmX10_longest (g_Pc 21 D a (mE a cI cZ σ) [(cI, .int), (cZ, .boolean)] [.ref (a 0), .int x1]) (g_Qi 21 D a (mE a cI cZ out.2) out.1) 0 0 (g_Own 21 a) := by
  refine g_meti (by decide) hj (Nat.le_of_ble_eq_true rfl) ?_
  intro p e s m args below meth c Q ls F hl hI hq
  have hx := F.1.1
  have hb := F.1.2.1
  have hl : lv_has ls 4 [(0, .ref (a 0)), (1, .int x1)] := hl
  have h := hh
  unfold f_X10_longest at h
  refine lv_iconst (v := 0) hx hb dX10_longest_0 (by decide) ?_
  refine lv_istore_n (lv' := [(2, .int 0), (0, .ref (a 0)), (1, .int x1)]) hx hb dX10_longest_1 rfl hl (by decide) rfl (fun ls hl => ?_)
  refine lv_aload_n hx hb dX10_longest_2 rfl (lv_at hl 1 rfl) ?_
  refine lv_iload_n hx hb dX10_longest_3 rfl (lv_at hl 2 rfl) ?_
  refine g_callSi (E' := mE a cI cZ σ) (As := [.int x1]) (rest := [.ref (a 0)]) F hI (c_X10_isLevel l D a cI cZ F.2.2 σ x1) kb_X10_isLevel kt_X10_isLevel km_X10_116 ⟨Nat.le_of_ble_eq_true rfl, Nat.le_of_ble_eq_true rfl, rfl, rfl⟩ hl.1 rfl (Nat.le_of_ble_eq_true rfl) ⟨Nat.zero_le _, Nat.zero_le _⟩ dX10_longest_4 (fun H locs hI => ?_)
  refine g_callVi (E' := mE a cI cZ ((f_X10_asked σ (f_X10_isLevel x1)).2)) (k0 := 0) (As := [.int (f_X10_isLevel x1)]) (rest := []) F hI (c_X10_asked l D a cI cZ F.2.2 σ (f_X10_isLevel x1)) kb_X10_asked ki_X10_asked ks_X10_asked km_X10_103 ⟨Nat.le_of_ble_eq_true rfl, Nat.le_of_ble_eq_true rfl, rfl, rfl⟩ (by decide) mE_0 rfl hl.1 rfl (Nat.le_of_ble_eq_true rfl) ⟨Nat.zero_le _, Nat.zero_le _⟩ dX10_longest_7 (fun H locs hI => ?_)
  refine lv_if_eq (tgt := 54) hx hb dX10_longest_10 (by decide) (fun c_10 => ?_) (fun c_10 => ?_)
  · have h := (if_pos c_10).symm.trans h
    refine lv_iload_n hx hb dX10_longest_54 rfl (lv_at hl 0 rfl) ?_
    have h := Option.some.inj h
    subst h
    exact hq _ _ _ _ hI dX10_longest_55
  · have h := (if_neg c_10).symm.trans h
    refine lv_aload_n hx hb dX10_longest_13 rfl (lv_at hl 1 rfl) ?_
    refine lv_iload_n hx hb dX10_longest_14 rfl (lv_at hl 2 rfl) ?_
    obtain ⟨s_15, e_15, h⟩ := gBind_in h
    refine g_callVv (E' := mE a cI cZ s_15) (k0 := 0) (As := [.int x1]) (rest := []) F hI (c_X10_findsLines l D a cI cZ F.2.2 N ((f_X10_asked σ (f_X10_isLevel x1)).2) x1 s_15 e_15) kb_X10_findsLines ki_X10_findsLines ks_X10_findsLines km_X10_120 ⟨Nat.le_of_ble_eq_true rfl, Nat.le_of_ble_eq_true rfl, rfl, rfl⟩ (by decide) mE_0 rfl hl.1 rfl (Nat.le_of_ble_eq_true rfl) ⟨Nat.zero_le _, Nat.zero_le _⟩ dX10_longest_15 (fun H locs hI => ?_)
    refine lv_iconst (v := 0) hx hb dX10_longest_18 (by decide) ?_
    refine lv_istore_n (lv' := [(3, .int 0), (2, .int 0), (0, .ref (a 0)), (1, .int x1)]) hx hb dX10_longest_19 rfl hl (by decide) rfl (fun ls hl => ?_)
    obtain ⟨lp20, hz20, hs20, h⟩ := gLoop2_in h
    have L20 : ∀ (n : Nat) (v2_20 : Int32) (v3_20 : Int32) (H : Heap) (locs : List Loc) (ls : Array Slot), lp20 n v2_20 v3_20 = some out → g_S 21 D a (mE a cI cZ s_15) s.heap H locs → lv_has ls 4 [(0, .ref (a 0)), (2, .int v2_20), (3, .int v3_20)] → W p l e rmX10_longest s m args below meth c H locs 0 0 Q (F0 m 20 ls []) := by
      intro n
      induction n with
      | zero => intro v2_20 v3_20 H locs ls h; rw [hz20] at h; cases h
      | succ n ih20 =>
        intro v2_20 v3_20 H locs ls h hI hl
        rw [hs20] at h
        refine lv_iload_n hx hb dX10_longest_20 rfl (lv_at hl 2 rfl) ?_
        refine lv_sipush (v := 288) hx hb dX10_longest_21 (by decide) ?_
        refine lv_icmp_ge (tgt := 54) hx hb dX10_longest_24 (by decide) (fun c_24 => ?_) (fun c_24 => ?_)
        · have h := (if_pos c_24).symm.trans h
          refine lv_iload_n hx hb dX10_longest_54 rfl (lv_at hl 1 rfl) ?_
          have h := Option.some.inj h
          subst h
          exact hq _ _ _ _ hI dX10_longest_55
        · have h := (if_neg c_24).symm.trans h
          refine lv_aload_n hx hb dX10_longest_27 rfl (lv_at hl 0 rfl) ?_
          refine g_get F hI (by decide) mE_0 rfl ku_X10 18 (by decide) kf_X10_50 rfl dX10_longest_28 ?_
          refine lv_iload_n hx hb dX10_longest_31 rfl (lv_at hl 2 rfl) ?_
          obtain ⟨g_32, h⟩ := g_guard h
          refine g_iald F hI (by decide) mE_a13 0 rfl g_32 dX10_longest_32 ?_
          refine lv_iload_n hx hb dX10_longest_33 rfl (lv_at hl 1 rfl) ?_
          obtain ⟨j47, hj47, h⟩ := gJoin1_in h
          have J47 : ∀ (w0_47 : Int32) (H : Heap) (locs : List Loc) (ls : Array Slot), j47 w0_47 = some out → g_S 21 D a (mE a cI cZ s_15) s.heap H locs → lv_has ls 4 [(0, .ref (a 0)), (3, .int v3_20)] → W p l e rmX10_longest s m args below meth c H locs 0 0 Q (F0 m 47 ls [.int w0_47]) := by
            intro w0_47 H locs ls h hI hl
            rw [hj47] at h
            refine lv_istore_n (lv' := [(2, .int w0_47), (0, .ref (a 0)), (3, .int v3_20)]) hx hb dX10_longest_47 rfl hl (by decide) rfl (fun ls hl => ?_)
            refine lv_iinc (v := v3_20 + 1) (lv' := [(3, .int (v3_20 + 1)), (2, .int w0_47), (0, .ref (a 0))]) hx hb dX10_longest_48 hl (k := 2) rfl rfl (by decide) rfl (fun ls hl => ?_)
            refine lv_goto (tgt := 20) hx hb dX10_longest_51 (by decide) ?_
            exact ih20 _ _ _ _ _ h hI (lv_sub hl [2, 1, 0] rfl)
          refine lv_icmp_le (tgt := 46) hx hb dX10_longest_34 (by decide) (fun c_34 => ?_) (fun c_34 => ?_)
          · have h := (if_pos c_34).symm.trans h
            refine lv_iload_n hx hb dX10_longest_46 rfl (lv_at hl 1 rfl) ?_
            exact J47 _ _ _ _ h hI (lv_sub hl [0, 2] rfl)
          · have h := (if_neg c_34).symm.trans h
            refine lv_aload_n hx hb dX10_longest_37 rfl (lv_at hl 0 rfl) ?_
            refine g_get F hI (by decide) mE_0 rfl ku_X10 18 (by decide) kf_X10_50 rfl dX10_longest_38 ?_
            refine lv_iload_n hx hb dX10_longest_41 rfl (lv_at hl 2 rfl) ?_
            obtain ⟨g_42, h⟩ := g_guard h
            refine g_iald F hI (by decide) mE_a13 0 rfl g_42 dX10_longest_42 ?_
            refine lv_goto (tgt := 47) hx hb dX10_longest_43 (by decide) ?_
            exact J47 _ _ _ _ h hI (lv_sub hl [0, 2] rfl)
    exact L20 _ _ _ _ _ _ h hI (lv_sub hl [2, 1, 0] rfl)
/-- SpurlineModel.price(I)I -/
def f_X10_price (x0 : Int32) : Int32 :=
  if x0 = 1 then
    12
  else
    if x0 = 2 then
      20
    else
      if x0 = 3 then
        40
      else
        10
abbrev rmX10_price : Room := { frames := 0, cells := 0, slots := 0, locals := 0 }
theorem kb_X10_price : g_CB yX10_price cX10_price 1 (some .int) 1 := ⟨kc_X10_price, kn_X10, by decide +kernel⟩
set_option maxRecDepth 100000 in
set_option maxHeartbeats 4000000 in
theorem c_X10_price (l : Launch) (D : va_G) (a : Nat → Nat) (cI cZ : ClassId) (hj : g_Inj 21 a) (σ : gSt) (x0 : Int32) : Met l yX10_price (Cond.code yX10_price cX10_price 1 (some .int) :: gW) rmX10_price (g_Pc 21 D a (mE a cI cZ σ) [(cI, .int), (cZ, .boolean)] [.int x0]) (g_Qi 21 D a (mE a cI cZ σ) (f_X10_price x0)) 0 0 (g_Own 21 a) := by
  generalize hh : f_X10_price x0 = out
  refine g_meti (by decide) hj (Nat.le_of_ble_eq_true rfl) ?_
  intro p e s m args below meth c Q ls F hl hI hq
  have hx := F.1.1
  have hb := F.1.2.1
  have hl : lv_has ls 1 [(0, .int x0)] := hl
  have h := hh
  unfold f_X10_price at h
  refine lv_iload_n hx hb dX10_price_0 rfl (lv_at hl 0 rfl) ?_
  refine lv_iconst (v := 1) hx hb dX10_price_1 (by decide) ?_
  refine lv_icmp_ne (tgt := 10) hx hb dX10_price_2 (by decide) (fun c_2 => ?_) (fun c_2 => ?_)
  · have h := (if_neg c_2).symm.trans h
    refine lv_iload_n hx hb dX10_price_10 rfl (lv_at hl 0 rfl) ?_
    refine lv_iconst (v := 2) hx hb dX10_price_11 (by decide) ?_
    refine lv_icmp_ne (tgt := 20) hx hb dX10_price_12 (by decide) (fun c_12 => ?_) (fun c_12 => ?_)
    · have h := (if_neg c_12).symm.trans h
      refine lv_iload_n hx hb dX10_price_20 rfl (lv_at hl 0 rfl) ?_
      refine lv_iconst (v := 3) hx hb dX10_price_21 (by decide) ?_
      refine lv_icmp_ne (tgt := 30) hx hb dX10_price_22 (by decide) (fun c_22 => ?_) (fun c_22 => ?_)
      · have h := (if_neg c_22).symm.trans h
        refine lv_bipush (v := 10) hx hb dX10_price_30 (by decide) ?_
        subst h
        exact hq _ _ _ _ hI dX10_price_32
      · have h := (if_pos c_22).symm.trans h
        refine lv_bipush (v := 40) hx hb dX10_price_25 (by decide) ?_
        refine lv_goto (tgt := 32) hx hb dX10_price_27 (by decide) ?_
        subst h
        exact hq _ _ _ _ hI dX10_price_32
    · have h := (if_pos c_12).symm.trans h
      refine lv_bipush (v := 20) hx hb dX10_price_15 (by decide) ?_
      refine lv_goto (tgt := 32) hx hb dX10_price_17 (by decide) ?_
      subst h
      exact hq _ _ _ _ hI dX10_price_32
  · have h := (if_pos c_2).symm.trans h
    refine lv_bipush (v := 12) hx hb dX10_price_5 (by decide) ?_
    refine lv_goto (tgt := 32) hx hb dX10_price_7 (by decide) ?_
    subst h
    exact hq _ _ _ _ hI dX10_price_32
/-- SpurlineModel.falls(IIZ)Z -/
def f_X10_falls (N : Nat) (σ : gSt) (x1 x2 x3 : Int32) : Option (Int32 × gSt) :=
  if x1 < 0 ∨ 144 ≤ x1.toNatClampNeg then none else
  if g_ga σ 14 x1 = 1000000000 then
    some (0, σ)
  else
    gJoin0 (
        if x2 < 0 ∨ 144 ≤ x2.toNatClampNeg then none else
        if x1 < 0 ∨ 144 ≤ x1.toNatClampNeg then none else
        gJoin1 (fun (w0_59 : Int32) =>
            if x1 < 0 ∨ 144 ≤ x1.toNatClampNeg then none else
            if x2 < 0 ∨ 144 ≤ x2.toNatClampNeg then none else
            if x2 < 0 ∨ 144 ≤ x2.toNatClampNeg then none else
            gJoin1 (fun (w0_129 : Int32) =>
                if w0_129 = 0 then
                  some (w0_129 &&& 1, σ)
                else
                  if x2 < 0 ∨ 144 ≤ x2.toNatClampNeg then none else
                  if x1 < 0 ∨ 144 ≤ x1.toNatClampNeg then none else
                  if x2 < 0 ∨ 144 ≤ x2.toNatClampNeg then none else
                  some (w0_129 &&& 1, g_pa (g_pa σ 14 x2 (((g_ga σ 14 x1) + (f_X10_price (g_ga σ 1 x2))) + (4 * w0_59))) 15 x2 ((g_ga (g_pa σ 14 x2 (((g_ga σ 14 x1) + (f_X10_price (g_ga σ 1 x2))) + (4 * w0_59))) 15 x1) + w0_59))) (fun j129 =>
            gJoin0 (
                j129 1) (fun j124 =>
              if ((g_ga σ 14 x1) + (f_X10_price (g_ga σ 1 x2))) + (4 * w0_59) < g_ga σ 14 x2 then
                j124
              else
                if x2 < 0 ∨ 144 ≤ x2.toNatClampNeg then none else
                gJoin0 (
                    j129 0) (fun j128 =>
                  if ((g_ga σ 14 x1) + (f_X10_price (g_ga σ 1 x2))) + (4 * w0_59) = g_ga σ 14 x2 then
                    if x1 < 0 ∨ 144 ≤ x1.toNatClampNeg then none else
                    if x2 < 0 ∨ 144 ≤ x2.toNatClampNeg then none else
                    if g_ga σ 15 x2 ≤ (g_ga σ 15 x1) + w0_59 then
                      j128
                    else
                      j124
                  else
                    j128)))) (fun j59 =>
          if g_ga σ 0 x2 ≤ g_ga σ 0 x1 then
            j59 0
          else
            if x2 < 0 ∨ 144 ≤ x2.toNatClampNeg then none else
            if x1 < 0 ∨ 144 ≤ x1.toNatClampNeg then none else
            j59 ((g_ga σ 0 x2) - (g_ga σ 0 x1)))) (fun j27 =>
      if x3 = 0 then
        if x2 < 0 ∨ 144 ≤ x2.toNatClampNeg then none else
        if g_ga σ 1 x2 = 4 then
          some (0, σ)
        else
          j27
      else
        j27)
abbrev rmX10_falls : Room := { frames := 1, cells := 0, slots := 0, locals := 20 }
theorem kb_X10_falls : g_CB yX10_falls cX10_falls 7 (some .boolean) 3 := ⟨kc_X10_falls, kn_X10, by decide +kernel⟩
set_option maxRecDepth 100000 in
set_option maxHeartbeats 4000000 in
theorem c_X10_falls (l : Launch) (D : va_G) (a : Nat → Nat) (cI cZ : ClassId) (hj : g_Inj 21 a) (N : Nat) (σ : gSt) (x1 x2 x3 : Int32) (out : Int32 × gSt) (hh : f_X10_falls N σ x1 x2 x3 = some out) : Met l yX10_falls (Cond.code yX10_falls cX10_falls 7 (some .boolean) :: gW) rmX10_falls (g_Pc 21 D a (mE a cI cZ σ) [(cI, .int), (cZ, .boolean)] [.ref (a 0), .int x1, .int x2, .int x3]) (g_Qi 21 D a (mE a cI cZ out.2) out.1) 0 0 (g_Own 21 a) := by
  refine g_metz (by decide) hj (Nat.le_of_ble_eq_true rfl) ?_
  intro p e s m args below meth c Q ls F hl hI hq
  have hx := F.1.1
  have hb := F.1.2.1
  have hl : lv_has ls 7 [(0, .ref (a 0)), (1, .int x1), (2, .int x2), (3, .int x3)] := hl
  have h := hh
  unfold f_X10_falls at h
  refine lv_aload_n hx hb dX10_falls_0 rfl (lv_at hl 0 rfl) ?_
  refine g_get F hI (by decide) mE_0 rfl ku_X10 19 (by decide) kf_X10_53 rfl dX10_falls_1 ?_
  refine lv_iload_n hx hb dX10_falls_4 rfl (lv_at hl 1 rfl) ?_
  obtain ⟨g_5, h⟩ := g_guard h
  refine g_iald F hI (by decide) mE_a14 0 rfl g_5 dX10_falls_5 ?_
  refine lv_ldc (v := 1000000000) hx hb F.1.2.2.2.1 (F.1.2.2.2.2 _ kk_X10_127) dX10_falls_6 ?_
  refine lv_icmp_eq (tgt := 25) hx hb dX10_falls_8 (by decide) (fun c_8 => ?_) (fun c_8 => ?_)
  · have h := (if_pos c_8).symm.trans h
    refine lv_iconst (v := 0) hx hb dX10_falls_25 (by decide) ?_
    have h := Option.some.inj h
    subst h
    exact hq _ _ _ _ _ (show (0 : Int32) &&& 1 = 0 from by decide) hI dX10_falls_26
  · have h := (if_neg c_8).symm.trans h
    refine lv_iload_n hx hb dX10_falls_11 rfl (lv_at hl 3 rfl) ?_
    obtain ⟨j27, hj27, h⟩ := gJoin0_in h
    have J27 : ∀ (H : Heap) (locs : List Loc) (ls : Array Slot), j27  = some out → g_S 21 D a (mE a cI cZ σ) s.heap H locs → lv_has ls 7 [(0, .ref (a 0)), (1, .int x1), (2, .int x2)] → W p l e rmX10_falls s m args below meth c H locs 0 0 Q (F0 m 27 ls []) := by
      intro  H locs ls h hI hl
      rw [hj27] at h
      refine lv_aload_n hx hb dX10_falls_27 rfl (lv_at hl 0 rfl) ?_
      refine g_get F hI (by decide) mE_0 rfl ku_X10 2 (by decide) kf_X10_7 rfl dX10_falls_28 ?_
      refine lv_iload_n hx hb dX10_falls_31 rfl (lv_at hl 2 rfl) ?_
      obtain ⟨g_32, h⟩ := g_guard h
      refine g_iald F hI (by decide) mE_a0 0 rfl g_32 dX10_falls_32 ?_
      refine lv_aload_n hx hb dX10_falls_33 rfl (lv_at hl 0 rfl) ?_
      refine g_get F hI (by decide) mE_0 rfl ku_X10 2 (by decide) kf_X10_7 rfl dX10_falls_34 ?_
      refine lv_iload_n hx hb dX10_falls_37 rfl (lv_at hl 1 rfl) ?_
      obtain ⟨g_38, h⟩ := g_guard h
      refine g_iald F hI (by decide) mE_a0 0 rfl g_38 dX10_falls_38 ?_
      obtain ⟨j59, hj59, h⟩ := gJoin1_in h
      have J59 : ∀ (w0_59 : Int32) (H : Heap) (locs : List Loc) (ls : Array Slot), j59 w0_59 = some out → g_S 21 D a (mE a cI cZ σ) s.heap H locs → lv_has ls 7 [(0, .ref (a 0)), (1, .int x1), (2, .int x2)] → W p l e rmX10_falls s m args below meth c H locs 0 0 Q (F0 m 59 ls [.int w0_59]) := by
        intro w0_59 H locs ls h hI hl
        rw [hj59] at h
        refine lv_istore (lv' := [(4, .int w0_59), (0, .ref (a 0)), (1, .int x1), (2, .int x2)]) hx hb dX10_falls_59 hl (by decide) rfl (fun ls hl => ?_)
        refine lv_aload_n hx hb dX10_falls_61 rfl (lv_at hl 1 rfl) ?_
        refine g_get F hI (by decide) mE_0 rfl ku_X10 19 (by decide) kf_X10_53 rfl dX10_falls_62 ?_
        refine lv_iload_n hx hb dX10_falls_65 rfl (lv_at hl 2 rfl) ?_
        obtain ⟨g_66, h⟩ := g_guard h
        refine g_iald F hI (by decide) mE_a14 0 rfl g_66 dX10_falls_66 ?_
        refine lv_aload_n hx hb dX10_falls_67 rfl (lv_at hl 1 rfl) ?_
        refine g_get F hI (by decide) mE_0 rfl ku_X10 3 (by decide) kf_X10_13 rfl dX10_falls_68 ?_
        refine lv_iload_n hx hb dX10_falls_71 rfl (lv_at hl 3 rfl) ?_
        obtain ⟨g_72, h⟩ := g_guard h
        refine g_iald F hI (by decide) mE_a1 0 rfl g_72 dX10_falls_72 ?_
        refine g_callSi (E' := mE a cI cZ σ) (As := [.int (g_ga σ 1 x2)]) (rest := [.int (g_ga σ 14 x1)]) F hI (c_X10_price l D a cI cZ F.2.2 σ (g_ga σ 1 x2)) kb_X10_price kt_X10_price km_X10_128 ⟨Nat.le_of_ble_eq_true rfl, Nat.le_of_ble_eq_true rfl, rfl, rfl⟩ hl.1 rfl (Nat.le_of_ble_eq_true rfl) ⟨Nat.zero_le _, Nat.zero_le _⟩ dX10_falls_73 (fun H locs hI => ?_)
        refine lv_iadd hx hb dX10_falls_76 ?_
        refine lv_iconst (v := 4) hx hb dX10_falls_77 (by decide) ?_
        refine lv_iload hx hb dX10_falls_78 (lv_at hl 0 rfl) ?_
        refine lv_imul hx hb dX10_falls_80 ?_
        refine lv_iadd hx hb dX10_falls_81 ?_
        refine lv_istore (lv' := [(5, .int (((g_ga σ 14 x1) + (f_X10_price (g_ga σ 1 x2))) + (4 * w0_59))), (4, .int w0_59), (0, .ref (a 0)), (1, .int x1), (2, .int x2)]) hx hb dX10_falls_82 hl (by decide) rfl (fun ls hl => ?_)
        refine lv_iload hx hb dX10_falls_84 (lv_at hl 0 rfl) ?_
        refine lv_aload_n hx hb dX10_falls_86 rfl (lv_at hl 2 rfl) ?_
        refine g_get F hI (by decide) mE_0 rfl ku_X10 19 (by decide) kf_X10_53 rfl dX10_falls_87 ?_
        refine lv_iload_n hx hb dX10_falls_90 rfl (lv_at hl 4 rfl) ?_
        obtain ⟨g_91, h⟩ := g_guard h
        refine g_iald F hI (by decide) mE_a14 0 rfl g_91 dX10_falls_91 ?_
        obtain ⟨j129, hj129, h⟩ := gJoin1_in h
        have J129 : ∀ (w0_129 : Int32) (H : Heap) (locs : List Loc) (ls : Array Slot), j129 w0_129 = some out → g_S 21 D a (mE a cI cZ σ) s.heap H locs → lv_has ls 7 [(0, .ref (a 0)), (1, .int x1), (2, .int x2), (4, .int w0_59), (5, .int (((g_ga σ 14 x1) + (f_X10_price (g_ga σ 1 x2))) + (4 * w0_59)))] → W p l e rmX10_falls s m args below meth c H locs 0 0 Q (F0 m 129 ls [.int w0_129]) := by
          intro w0_129 H locs ls h hI hl
          rw [hj129] at h
          refine lv_istore (lv' := [(6, .int w0_129), (0, .ref (a 0)), (1, .int x1), (2, .int x2), (4, .int w0_59), (5, .int (((g_ga σ 14 x1) + (f_X10_price (g_ga σ 1 x2))) + (4 * w0_59)))]) hx hb dX10_falls_129 hl (by decide) rfl (fun ls hl => ?_)
          refine lv_iload hx hb dX10_falls_131 (lv_at hl 0 rfl) ?_
          refine lv_if_eq (tgt := 159) hx hb dX10_falls_133 (by decide) (fun c_133 => ?_) (fun c_133 => ?_)
          · have h := (if_pos c_133).symm.trans h
            refine lv_iload hx hb dX10_falls_159 (lv_at hl 0 rfl) ?_
            have h := Option.some.inj h
            subst h
            exact hq _ _ _ _ _ rfl hI dX10_falls_161
          · have h := (if_neg c_133).symm.trans h
            refine lv_aload_n hx hb dX10_falls_136 rfl (lv_at hl 1 rfl) ?_
            refine g_get F hI (by decide) mE_0 rfl ku_X10 19 (by decide) kf_X10_53 rfl dX10_falls_137 ?_
            refine lv_iload_n hx hb dX10_falls_140 rfl (lv_at hl 3 rfl) ?_
            refine lv_iload hx hb dX10_falls_141 (lv_at hl 5 rfl) ?_
            obtain ⟨g_143, h⟩ := g_guard h
            refine g_iast (E' := mE a cI cZ (g_pa σ 14 x2 (((g_ga σ 14 x1) + (f_X10_price (g_ga σ 1 x2))) + (4 * w0_59)))) F hI (by decide) mE_a14 0 rfl g_143 rfl mE_sa dX10_falls_143 (fun H locs hI => ?_)
            refine lv_aload_n hx hb dX10_falls_144 rfl (lv_at hl 1 rfl) ?_
            refine g_get F hI (by decide) mE_0 rfl ku_X10 20 (by decide) kf_X10_56 rfl dX10_falls_145 ?_
            refine lv_iload_n hx hb dX10_falls_148 rfl (lv_at hl 3 rfl) ?_
            refine lv_aload_n hx hb dX10_falls_149 rfl (lv_at hl 1 rfl) ?_
            refine g_get F hI (by decide) mE_0 rfl ku_X10 20 (by decide) kf_X10_56 rfl dX10_falls_150 ?_
            refine lv_iload_n hx hb dX10_falls_153 rfl (lv_at hl 2 rfl) ?_
            obtain ⟨g_154, h⟩ := g_guard h
            refine g_iald F hI (by decide) mE_a15 0 rfl g_154 dX10_falls_154 ?_
            refine lv_iload hx hb dX10_falls_155 (lv_at hl 4 rfl) ?_
            refine lv_iadd hx hb dX10_falls_157 ?_
            obtain ⟨g_158, h⟩ := g_guard h
            refine g_iast (E' := mE a cI cZ (g_pa (g_pa σ 14 x2 (((g_ga σ 14 x1) + (f_X10_price (g_ga σ 1 x2))) + (4 * w0_59))) 15 x2 ((g_ga (g_pa σ 14 x2 (((g_ga σ 14 x1) + (f_X10_price (g_ga σ 1 x2))) + (4 * w0_59))) 15 x1) + w0_59))) F hI (by decide) mE_a15 0 rfl g_158 rfl mE_sa dX10_falls_158 (fun H locs hI => ?_)
            refine lv_iload hx hb dX10_falls_159 (lv_at hl 0 rfl) ?_
            have h := Option.some.inj h
            subst h
            exact hq _ _ _ _ _ rfl hI dX10_falls_161
        obtain ⟨j124, hj124, h⟩ := gJoin0_in h
        have J124 : ∀ (H : Heap) (locs : List Loc) (ls : Array Slot), j124  = some out → g_S 21 D a (mE a cI cZ σ) s.heap H locs → lv_has ls 7 [(0, .ref (a 0)), (1, .int x1), (2, .int x2), (4, .int w0_59), (5, .int (((g_ga σ 14 x1) + (f_X10_price (g_ga σ 1 x2))) + (4 * w0_59)))] → W p l e rmX10_falls s m args below meth c H locs 0 0 Q (F0 m 124 ls []) := by
          intro  H locs ls h hI hl
          rw [hj124] at h
          refine lv_iconst (v := 1) hx hb dX10_falls_124 (by decide) ?_
          refine lv_goto (tgt := 129) hx hb dX10_falls_125 (by decide) ?_
          exact J129 _ _ _ _ h hI (lv_sub hl [0, 1, 2, 3, 4] rfl)
        refine lv_icmp_lt (tgt := 124) hx hb dX10_falls_92 (by decide) (fun c_92 => ?_) (fun c_92 => ?_)
        · have h := (if_pos c_92).symm.trans h
          exact J124 _ _ _ h hI (lv_sub hl [2, 3, 4, 1, 0] rfl)
        · have h := (if_neg c_92).symm.trans h
          refine lv_iload hx hb dX10_falls_95 (lv_at hl 0 rfl) ?_
          refine lv_aload_n hx hb dX10_falls_97 rfl (lv_at hl 2 rfl) ?_
          refine g_get F hI (by decide) mE_0 rfl ku_X10 19 (by decide) kf_X10_53 rfl dX10_falls_98 ?_
          refine lv_iload_n hx hb dX10_falls_101 rfl (lv_at hl 4 rfl) ?_
          obtain ⟨g_102, h⟩ := g_guard h
          refine g_iald F hI (by decide) mE_a14 0 rfl g_102 dX10_falls_102 ?_
          obtain ⟨j128, hj128, h⟩ := gJoin0_in h
          have J128 : ∀ (H : Heap) (locs : List Loc) (ls : Array Slot), j128  = some out → g_S 21 D a (mE a cI cZ σ) s.heap H locs → lv_has ls 7 [(0, .ref (a 0)), (1, .int x1), (2, .int x2), (4, .int w0_59), (5, .int (((g_ga σ 14 x1) + (f_X10_price (g_ga σ 1 x2))) + (4 * w0_59)))] → W p l e rmX10_falls s m args below meth c H locs 0 0 Q (F0 m 128 ls []) := by
            intro  H locs ls h hI hl
            rw [hj128] at h
            refine lv_iconst (v := 0) hx hb dX10_falls_128 (by decide) ?_
            exact J129 _ _ _ _ h hI (lv_sub hl [0, 1, 2, 3, 4] rfl)
          refine lv_icmp_ne (tgt := 128) hx hb dX10_falls_103 (by decide) (fun c_103 => ?_) (fun c_103 => ?_)
          · have h := (if_neg c_103).symm.trans h
            exact J128 _ _ _ h hI (lv_sub hl [2, 3, 4, 1, 0] rfl)
          · have h := (if_pos c_103).symm.trans h
            refine lv_aload_n hx hb dX10_falls_106 rfl (lv_at hl 2 rfl) ?_
            refine g_get F hI (by decide) mE_0 rfl ku_X10 20 (by decide) kf_X10_56 rfl dX10_falls_107 ?_
            refine lv_iload_n hx hb dX10_falls_110 rfl (lv_at hl 3 rfl) ?_
            obtain ⟨g_111, h⟩ := g_guard h
            refine g_iald F hI (by decide) mE_a15 0 rfl g_111 dX10_falls_111 ?_
            refine lv_iload hx hb dX10_falls_112 (lv_at hl 1 rfl) ?_
            refine lv_iadd hx hb dX10_falls_114 ?_
            refine lv_aload_n hx hb dX10_falls_115 rfl (lv_at hl 2 rfl) ?_
            refine g_get F hI (by decide) mE_0 rfl ku_X10 20 (by decide) kf_X10_56 rfl dX10_falls_116 ?_
            refine lv_iload_n hx hb dX10_falls_119 rfl (lv_at hl 4 rfl) ?_
            obtain ⟨g_120, h⟩ := g_guard h
            refine g_iald F hI (by decide) mE_a15 0 rfl g_120 dX10_falls_120 ?_
            refine lv_icmp_ge (tgt := 128) hx hb dX10_falls_121 (by decide) (fun c_121 => ?_) (fun c_121 => ?_)
            · have h := (if_pos c_121).symm.trans h
              exact J128 _ _ _ h hI (lv_sub hl [2, 3, 4, 1, 0] rfl)
            · have h := (if_neg c_121).symm.trans h
              exact J124 _ _ _ h hI (lv_sub hl [2, 3, 4, 1, 0] rfl)
      refine lv_icmp_le (tgt := 58) hx hb dX10_falls_39 (by decide) (fun c_39 => ?_) (fun c_39 => ?_)
      · have h := (if_pos c_39).symm.trans h
        refine lv_iconst (v := 0) hx hb dX10_falls_58 (by decide) ?_
        exact J59 _ _ _ _ h hI (lv_sub hl [0, 1, 2] rfl)
      · have h := (if_neg c_39).symm.trans h
        refine lv_aload_n hx hb dX10_falls_42 rfl (lv_at hl 0 rfl) ?_
        refine g_get F hI (by decide) mE_0 rfl ku_X10 2 (by decide) kf_X10_7 rfl dX10_falls_43 ?_
        refine lv_iload_n hx hb dX10_falls_46 rfl (lv_at hl 2 rfl) ?_
        obtain ⟨g_47, h⟩ := g_guard h
        refine g_iald F hI (by decide) mE_a0 0 rfl g_47 dX10_falls_47 ?_
        refine lv_aload_n hx hb dX10_falls_48 rfl (lv_at hl 0 rfl) ?_
        refine g_get F hI (by decide) mE_0 rfl ku_X10 2 (by decide) kf_X10_7 rfl dX10_falls_49 ?_
        refine lv_iload_n hx hb dX10_falls_52 rfl (lv_at hl 1 rfl) ?_
        obtain ⟨g_53, h⟩ := g_guard h
        refine g_iald F hI (by decide) mE_a0 0 rfl g_53 dX10_falls_53 ?_
        refine lv_isub hx hb dX10_falls_54 ?_
        refine lv_goto (tgt := 59) hx hb dX10_falls_55 (by decide) ?_
        exact J59 _ _ _ _ h hI (lv_sub hl [0, 1, 2] rfl)
    refine lv_if_ne (tgt := 27) hx hb dX10_falls_12 (by decide) (fun c_12 => ?_) (fun c_12 => ?_)
    · have h := (if_neg c_12).symm.trans h
      exact J27 _ _ _ h hI (lv_sub hl [0, 1, 2] rfl)
    · have h := (if_pos c_12).symm.trans h
      refine lv_aload_n hx hb dX10_falls_15 rfl (lv_at hl 0 rfl) ?_
      refine g_get F hI (by decide) mE_0 rfl ku_X10 3 (by decide) kf_X10_13 rfl dX10_falls_16 ?_
      refine lv_iload_n hx hb dX10_falls_19 rfl (lv_at hl 2 rfl) ?_
      obtain ⟨g_20, h⟩ := g_guard h
      refine g_iald F hI (by decide) mE_a1 0 rfl g_20 dX10_falls_20 ?_
      refine lv_iconst (v := 4) hx hb dX10_falls_21 (by decide) ?_
      refine lv_icmp_ne (tgt := 27) hx hb dX10_falls_22 (by decide) (fun c_22 => ?_) (fun c_22 => ?_)
      · have h := (if_neg c_22).symm.trans h
        exact J27 _ _ _ h hI (lv_sub hl [0, 1, 2] rfl)
      · have h := (if_pos c_22).symm.trans h
        refine lv_iconst (v := 0) hx hb dX10_falls_25 (by decide) ?_
        have h := Option.some.inj h
        subst h
        exact hq _ _ _ _ _ (show (0 : Int32) &&& 1 = 0 from by decide) hI dX10_falls_26
/-- SpurlineModel.finds(IZ)V -/
def f_X10_finds (N : Nat) (σ : gSt) (x1 x2 : Int32) : Option gSt :=
  gLoop2 (fun self2 (v3_2 : Int32) (s_2 : gSt) =>
    if 144 ≤ v3_2 then
      if x1 < 0 ∨ 144 ≤ x1.toNatClampNeg then none else
      if x1 < 0 ∨ 144 ≤ x1.toNatClampNeg then none else
      gLoop2 (fun self47 (v3_47 : Int32) (s_47 : gSt) =>
        if v3_47 = 0 then
          some s_47
        else
          gLoop3 (fun self56 (v3_56 : Int32) (v4_56 : Int32) (s_56 : gSt) =>
            if 144 ≤ v4_56 then
              self47 v3_56 s_56
            else
              gJoin2 (fun (v3_147 : Int32) (s_147 : gSt) =>
                  gJoin2 (fun (v3_216 : Int32) (s_216 : gSt) =>
                      self56 v3_216 (v4_56 + 1) s_216) (fun j216 =>
                    if f_X10_isCell s_56 (v4_56 - v4_56 / 12 * 12) (v4_56 / 12) = 0 then
                      j216 v3_147 s_147
                    else
                      if s_147.2 1 ≤ (v4_56 / 12) + 1 then
                        j216 v3_147 s_147
                      else
                        (f_X10_falls N s_147 v4_56 (v4_56 + 12) x2).bind (fun (q_175 : Int32 × gSt) =>
                        gJoin1 (fun (w0_190 : Int32) =>
                            (f_X10_falls N q_175.2 (v4_56 + 12) v4_56 x2).bind (fun (q_200 : Int32 × gSt) =>
                            gJoin1 (fun (w0_215 : Int32) =>
                                j216 w0_215 q_200.2) (fun j215 =>
                            gJoin0 (
                                j215 1) (fun j210 =>
                              if q_200.1 = 0 then
                                if w0_190 = 0 then
                                  j215 0
                                else
                                  j210
                              else
                                j210)))) (fun j190 =>
                        gJoin0 (
                            j190 1) (fun j185 =>
                          if q_175.1 = 0 then
                            if v3_147 = 0 then
                              j190 0
                            else
                              j185
                          else
                            j185))))) (fun j147 =>
                if f_X10_isCell s_56 (v4_56 - v4_56 / 12 * 12) (v4_56 / 12) = 0 then
                  j147 v3_56 s_56
                else
                  if s_56.2 0 ≤ (v4_56 - v4_56 / 12 * 12) + 1 then
                    j147 v3_56 s_56
                  else
                    (f_X10_falls N s_56 v4_56 (v4_56 + 1) x2).bind (fun (q_107 : Int32 × gSt) =>
                    gJoin1 (fun (w0_122 : Int32) =>
                        (f_X10_falls N q_107.2 (v4_56 + 1) v4_56 x2).bind (fun (q_131 : Int32 × gSt) =>
                        gJoin1 (fun (w0_146 : Int32) =>
                            j147 w0_146 q_131.2) (fun j146 =>
                        gJoin0 (
                            j146 1) (fun j141 =>
                          if q_131.1 = 0 then
                            if w0_122 = 0 then
                              j146 0
                            else
                              j141
                          else
                            j141)))) (fun j122 =>
                    gJoin0 (
                        j122 1) (fun j117 =>
                      if q_107.1 = 0 then
                        if v3_56 = 0 then
                          j122 0
                        else
                          j117
                      else
                        j117))))) N 0 0 s_47) N 1 (g_pa (g_pa s_2 14 x1 0) 15 x1 0)
    else
      if v3_2 < 0 ∨ 144 ≤ v3_2.toNatClampNeg then none else
      if v3_2 < 0 ∨ 144 ≤ v3_2.toNatClampNeg then none else
      self2 (v3_2 + 1) (g_pa (g_pa s_2 14 v3_2 1000000000) 15 v3_2 1000000000)) N 0 σ
abbrev rmX10_finds : Room := { frames := 2, cells := 0, slots := 0, locals := 46 }
theorem kb_X10_finds : g_CB yX10_finds cX10_finds 6 none 2 := ⟨kc_X10_finds, kn_X10, by decide +kernel⟩
set_option maxRecDepth 100000 in
set_option maxHeartbeats 4000000 in
theorem c_X10_finds (l : Launch) (D : va_G) (a : Nat → Nat) (cI cZ : ClassId) (hj : g_Inj 21 a) (N : Nat) (σ : gSt) (x1 x2 : Int32) (out : gSt) (hh : f_X10_finds N σ x1 x2 = some out) : Met l yX10_finds (Cond.code yX10_finds cX10_finds 6 none :: gW) rmX10_finds (g_Pc 21 D a (mE a cI cZ σ) [(cI, .int), (cZ, .boolean)] [.ref (a 0), .int x1, .int x2]) (g_Qv 21 D a (mE a cI cZ out)) 0 0 (g_Own 21 a) := by
  refine g_metv (by decide) hj (Nat.le_of_ble_eq_true rfl) ?_
  intro p e s m args below meth c Q ls F hl hI hq
  have hx := F.1.1
  have hb := F.1.2.1
  have hl : lv_has ls 6 [(0, .ref (a 0)), (1, .int x1), (2, .int x2)] := hl
  have h := hh
  unfold f_X10_finds at h
  refine lv_iconst (v := 0) hx hb dX10_finds_0 (by decide) ?_
  refine lv_istore_n (lv' := [(3, .int 0), (0, .ref (a 0)), (1, .int x1), (2, .int x2)]) hx hb dX10_finds_1 rfl hl (by decide) rfl (fun ls hl => ?_)
  obtain ⟨lp2, hz2, hs2, h⟩ := gLoop2_in h
  have L2 : ∀ (n : Nat) (v3_2 : Int32) (s_2 : gSt) (H : Heap) (locs : List Loc) (ls : Array Slot), lp2 n v3_2 s_2 = some out → g_S 21 D a (mE a cI cZ s_2) s.heap H locs → lv_has ls 6 [(0, .ref (a 0)), (1, .int x1), (2, .int x2), (3, .int v3_2)] → W p l e rmX10_finds s m args below meth c H locs 0 0 Q (F0 m 2 ls []) := by
    intro n
    induction n with
    | zero => intro v3_2 s_2 H locs ls h; rw [hz2] at h; cases h
    | succ n ih2 =>
      intro v3_2 s_2 H locs ls h hI hl
      rw [hs2] at h
      refine lv_iload_n hx hb dX10_finds_2 rfl (lv_at hl 3 rfl) ?_
      refine lv_sipush (v := 144) hx hb dX10_finds_3 (by decide) ?_
      refine lv_icmp_ge (tgt := 31) hx hb dX10_finds_6 (by decide) (fun c_6 => ?_) (fun c_6 => ?_)
      · have h := (if_pos c_6).symm.trans h
        refine lv_aload_n hx hb dX10_finds_31 rfl (lv_at hl 0 rfl) ?_
        refine g_get F hI (by decide) mE_0 rfl ku_X10 19 (by decide) kf_X10_53 rfl dX10_finds_32 ?_
        refine lv_iload_n hx hb dX10_finds_35 rfl (lv_at hl 1 rfl) ?_
        refine lv_iconst (v := 0) hx hb dX10_finds_36 (by decide) ?_
        obtain ⟨g_37, h⟩ := g_guard h
        refine g_iast (E' := mE a cI cZ (g_pa s_2 14 x1 0)) F hI (by decide) mE_a14 0 rfl g_37 rfl mE_sa dX10_finds_37 (fun H locs hI => ?_)
        refine lv_aload_n hx hb dX10_finds_38 rfl (lv_at hl 0 rfl) ?_
        refine g_get F hI (by decide) mE_0 rfl ku_X10 20 (by decide) kf_X10_56 rfl dX10_finds_39 ?_
        refine lv_iload_n hx hb dX10_finds_42 rfl (lv_at hl 1 rfl) ?_
        refine lv_iconst (v := 0) hx hb dX10_finds_43 (by decide) ?_
        obtain ⟨g_44, h⟩ := g_guard h
        refine g_iast (E' := mE a cI cZ (g_pa (g_pa s_2 14 x1 0) 15 x1 0)) F hI (by decide) mE_a15 0 rfl g_44 rfl mE_sa dX10_finds_44 (fun H locs hI => ?_)
        refine lv_iconst (v := 1) hx hb dX10_finds_45 (by decide) ?_
        refine lv_istore_n (lv' := [(3, .int 1), (0, .ref (a 0)), (1, .int x1), (2, .int x2)]) hx hb dX10_finds_46 rfl hl (by decide) rfl (fun ls hl => ?_)
        obtain ⟨lp47, hz47, hs47, h⟩ := gLoop2_in h
        have L47 : ∀ (n : Nat) (v3_47 : Int32) (s_47 : gSt) (H : Heap) (locs : List Loc) (ls : Array Slot), lp47 n v3_47 s_47 = some out → g_S 21 D a (mE a cI cZ s_47) s.heap H locs → lv_has ls 6 [(0, .ref (a 0)), (2, .int x2), (3, .int v3_47)] → W p l e rmX10_finds s m args below meth c H locs 0 0 Q (F0 m 47 ls []) := by
          intro n
          induction n with
          | zero => intro v3_47 s_47 H locs ls h; rw [hz47] at h; cases h
          | succ n ih47 =>
            intro v3_47 s_47 H locs ls h hI hl
            rw [hs47] at h
            refine lv_iload_n hx hb dX10_finds_47 rfl (lv_at hl 2 rfl) ?_
            refine lv_if_eq (tgt := 225) hx hb dX10_finds_48 (by decide) (fun c_48 => ?_) (fun c_48 => ?_)
            · have h := (if_pos c_48).symm.trans h
              have h := Option.some.inj h
              subst h
              exact hq _ _ _ _ hI dX10_finds_225
            · have h := (if_neg c_48).symm.trans h
              refine lv_iconst (v := 0) hx hb dX10_finds_51 (by decide) ?_
              refine lv_istore_n (lv' := [(3, .int 0), (0, .ref (a 0)), (2, .int x2)]) hx hb dX10_finds_52 rfl hl (by decide) rfl (fun ls hl => ?_)
              refine lv_iconst (v := 0) hx hb dX10_finds_53 (by decide) ?_
              refine lv_istore (lv' := [(4, .int 0), (3, .int 0), (0, .ref (a 0)), (2, .int x2)]) hx hb dX10_finds_54 hl (by decide) rfl (fun ls hl => ?_)
              obtain ⟨lp56, hz56, hs56, h⟩ := gLoop3_in h
              have L56 : ∀ (n : Nat) (v3_56 : Int32) (v4_56 : Int32) (s_56 : gSt) (H : Heap) (locs : List Loc) (ls : Array Slot), lp56 n v3_56 v4_56 s_56 = some out → g_S 21 D a (mE a cI cZ s_56) s.heap H locs → lv_has ls 6 [(0, .ref (a 0)), (2, .int x2), (3, .int v3_56), (4, .int v4_56)] → W p l e rmX10_finds s m args below meth c H locs 0 0 Q (F0 m 56 ls []) := by
                intro n
                induction n with
                | zero => intro v3_56 v4_56 s_56 H locs ls h; rw [hz56] at h; cases h
                | succ n ih56 =>
                  intro v3_56 v4_56 s_56 H locs ls h hI hl
                  rw [hs56] at h
                  refine lv_iload hx hb dX10_finds_56 (lv_at hl 3 rfl) ?_
                  refine lv_sipush (v := 144) hx hb dX10_finds_58 (by decide) ?_
                  refine lv_icmp_ge (tgt := 222) hx hb dX10_finds_61 (by decide) (fun c_61 => ?_) (fun c_61 => ?_)
                  · have h := (if_pos c_61).symm.trans h
                    refine lv_goto (tgt := 47) hx hb dX10_finds_222 (by decide) ?_
                    exact ih47 _ _ _ _ _ h hI (lv_sub hl [0, 1, 2] rfl)
                  · have h := (if_neg c_61).symm.trans h
                    refine lv_aload_n hx hb dX10_finds_64 rfl (lv_at hl 0 rfl) ?_
                    refine lv_iload hx hb dX10_finds_65 (lv_at hl 3 rfl) ?_
                    refine lv_bipush (v := 12) hx hb dX10_finds_67 (by decide) ?_
                    refine lv_irem hx hb dX10_finds_69 (by decide) ?_
                    refine lv_iload hx hb dX10_finds_70 (lv_at hl 3 rfl) ?_
                    refine lv_bipush (v := 12) hx hb dX10_finds_72 (by decide) ?_
                    refine lv_idiv hx hb dX10_finds_74 (by decide) ?_
                    refine g_callVi (E' := mE a cI cZ s_56) (k0 := 0) (As := [.int (v4_56 - v4_56 / 12 * 12), .int (v4_56 / 12)]) (rest := []) F hI (c_X10_isCell l D a cI cZ F.2.2 s_56 (v4_56 - v4_56 / 12 * 12) (v4_56 / 12)) kb_X10_isCell ki_X10_isCell ks_X10_isCell km_X10_91 ⟨Nat.le_of_ble_eq_true rfl, Nat.le_of_ble_eq_true rfl, rfl, rfl⟩ (by decide) mE_0 rfl hl.1 rfl (Nat.le_of_ble_eq_true rfl) ⟨Nat.zero_le _, Nat.zero_le _⟩ dX10_finds_75 (fun H locs hI => ?_)
                    refine lv_istore (lv' := [(5, .int (f_X10_isCell s_56 (v4_56 - v4_56 / 12 * 12) (v4_56 / 12))), (0, .ref (a 0)), (2, .int x2), (3, .int v3_56), (4, .int v4_56)]) hx hb dX10_finds_78 hl (by decide) rfl (fun ls hl => ?_)
                    refine lv_iload hx hb dX10_finds_80 (lv_at hl 0 rfl) ?_
                    obtain ⟨j147, hj147, h⟩ := gJoin2_in h
                    have J147 : ∀ (v3_147 : Int32) (s_147 : gSt) (H : Heap) (locs : List Loc) (ls : Array Slot), j147 v3_147 s_147 = some out → g_S 21 D a (mE a cI cZ s_147) s.heap H locs → lv_has ls 6 [(0, .ref (a 0)), (2, .int x2), (3, .int v3_147), (4, .int v4_56), (5, .int (f_X10_isCell s_56 (v4_56 - v4_56 / 12 * 12) (v4_56 / 12)))] → W p l e rmX10_finds s m args below meth c H locs 0 0 Q (F0 m 147 ls []) := by
                      intro v3_147 s_147 H locs ls h hI hl
                      rw [hj147] at h
                      refine lv_iload hx hb dX10_finds_147 (lv_at hl 4 rfl) ?_
                      obtain ⟨j216, hj216, h⟩ := gJoin2_in h
                      have J216 : ∀ (v3_216 : Int32) (s_216 : gSt) (H : Heap) (locs : List Loc) (ls : Array Slot), j216 v3_216 s_216 = some out → g_S 21 D a (mE a cI cZ s_216) s.heap H locs → lv_has ls 6 [(0, .ref (a 0)), (2, .int x2), (3, .int v3_216), (4, .int v4_56)] → W p l e rmX10_finds s m args below meth c H locs 0 0 Q (F0 m 216 ls []) := by
                        intro v3_216 s_216 H locs ls h hI hl
                        rw [hj216] at h
                        refine lv_iinc (v := v4_56 + 1) (lv' := [(4, .int (v4_56 + 1)), (0, .ref (a 0)), (2, .int x2), (3, .int v3_216)]) hx hb dX10_finds_216 hl (k := 3) rfl rfl (by decide) rfl (fun ls hl => ?_)
                        refine lv_goto (tgt := 56) hx hb dX10_finds_219 (by decide) ?_
                        exact ih56 _ _ _ _ _ _ h hI (lv_sub hl [1, 2, 3, 0] rfl)
                      refine lv_if_eq (tgt := 216) hx hb dX10_finds_149 (by decide) (fun c_149 => ?_) (fun c_149 => ?_)
                      · have h := (if_pos c_149).symm.trans h
                        exact J216 _ _ _ _ _ h hI (lv_sub hl [0, 1, 2, 3] rfl)
                      · have h := (if_neg c_149).symm.trans h
                        refine lv_iload hx hb dX10_finds_152 (lv_at hl 3 rfl) ?_
                        refine lv_bipush (v := 12) hx hb dX10_finds_154 (by decide) ?_
                        refine lv_idiv hx hb dX10_finds_156 (by decide) ?_
                        refine lv_iconst (v := 1) hx hb dX10_finds_157 (by decide) ?_
                        refine lv_iadd hx hb dX10_finds_158 ?_
                        refine lv_aload_n hx hb dX10_finds_159 rfl (lv_at hl 0 rfl) ?_
                        refine g_get F hI (by decide) mE_0 rfl ku_X10 1 (by decide) kf_X10_75 rfl dX10_finds_160 ?_
                        refine lv_icmp_ge (tgt := 216) hx hb dX10_finds_163 (by decide) (fun c_163 => ?_) (fun c_163 => ?_)
                        · have h := (if_pos c_163).symm.trans h
                          exact J216 _ _ _ _ _ h hI (lv_sub hl [0, 1, 2, 3] rfl)
                        · have h := (if_neg c_163).symm.trans h
                          refine lv_aload_n hx hb dX10_finds_166 rfl (lv_at hl 0 rfl) ?_
                          refine lv_iload hx hb dX10_finds_167 (lv_at hl 3 rfl) ?_
                          refine lv_iload hx hb dX10_finds_169 (lv_at hl 3 rfl) ?_
                          refine lv_bipush (v := 12) hx hb dX10_finds_171 (by decide) ?_
                          refine lv_iadd hx hb dX10_finds_173 ?_
                          refine lv_iload_n hx hb dX10_finds_174 rfl (lv_at hl 1 rfl) ?_
                          obtain ⟨q_175, e_175, h⟩ := gBind_in h
                          refine g_callVi (E' := mE a cI cZ q_175.2) (k0 := 0) (As := [.int v4_56, .int (v4_56 + 12), .int x2]) (rest := []) F hI (c_X10_falls l D a cI cZ F.2.2 N s_147 v4_56 (v4_56 + 12) x2 q_175 e_175) kb_X10_falls ki_X10_falls ks_X10_falls km_X10_132 ⟨Nat.le_of_ble_eq_true rfl, Nat.le_of_ble_eq_true rfl, rfl, rfl⟩ (by decide) mE_0 rfl hl.1 rfl (Nat.le_of_ble_eq_true rfl) ⟨Nat.zero_le _, Nat.zero_le _⟩ dX10_finds_175 (fun H locs hI => ?_)
                          obtain ⟨j190, hj190, h⟩ := gJoin1_in h
                          have J190 : ∀ (w0_190 : Int32) (H : Heap) (locs : List Loc) (ls : Array Slot), j190 w0_190 = some out → g_S 21 D a (mE a cI cZ q_175.2) s.heap H locs → lv_has ls 6 [(0, .ref (a 0)), (2, .int x2), (4, .int v4_56)] → W p l e rmX10_finds s m args below meth c H locs 0 0 Q (F0 m 190 ls [.int w0_190]) := by
                            intro w0_190 H locs ls h hI hl
                            rw [hj190] at h
                            refine lv_istore_n (lv' := [(3, .int w0_190), (0, .ref (a 0)), (2, .int x2), (4, .int v4_56)]) hx hb dX10_finds_190 rfl hl (by decide) rfl (fun ls hl => ?_)
                            refine lv_aload_n hx hb dX10_finds_191 rfl (lv_at hl 1 rfl) ?_
                            refine lv_iload hx hb dX10_finds_192 (lv_at hl 3 rfl) ?_
                            refine lv_bipush (v := 12) hx hb dX10_finds_194 (by decide) ?_
                            refine lv_iadd hx hb dX10_finds_196 ?_
                            refine lv_iload hx hb dX10_finds_197 (lv_at hl 3 rfl) ?_
                            refine lv_iload_n hx hb dX10_finds_199 rfl (lv_at hl 2 rfl) ?_
                            obtain ⟨q_200, e_200, h⟩ := gBind_in h
                            refine g_callVi (E' := mE a cI cZ q_200.2) (k0 := 0) (As := [.int (v4_56 + 12), .int v4_56, .int x2]) (rest := []) F hI (c_X10_falls l D a cI cZ F.2.2 N q_175.2 (v4_56 + 12) v4_56 x2 q_200 e_200) kb_X10_falls ki_X10_falls ks_X10_falls km_X10_132 ⟨Nat.le_of_ble_eq_true rfl, Nat.le_of_ble_eq_true rfl, rfl, rfl⟩ (by decide) mE_0 rfl hl.1 rfl (Nat.le_of_ble_eq_true rfl) ⟨Nat.zero_le _, Nat.zero_le _⟩ dX10_finds_200 (fun H locs hI => ?_)
                            obtain ⟨j215, hj215, h⟩ := gJoin1_in h
                            have J215 : ∀ (w0_215 : Int32) (H : Heap) (locs : List Loc) (ls : Array Slot), j215 w0_215 = some out → g_S 21 D a (mE a cI cZ q_200.2) s.heap H locs → lv_has ls 6 [(0, .ref (a 0)), (2, .int x2), (4, .int v4_56)] → W p l e rmX10_finds s m args below meth c H locs 0 0 Q (F0 m 215 ls [.int w0_215]) := by
                              intro w0_215 H locs ls h hI hl
                              rw [hj215] at h
                              refine lv_istore_n (lv' := [(3, .int w0_215), (0, .ref (a 0)), (2, .int x2), (4, .int v4_56)]) hx hb dX10_finds_215 rfl hl (by decide) rfl (fun ls hl => ?_)
                              exact J216 _ _ _ _ _ h hI (lv_sub hl [1, 2, 0, 3] rfl)
                            obtain ⟨j210, hj210, h⟩ := gJoin0_in h
                            have J210 : ∀ (H : Heap) (locs : List Loc) (ls : Array Slot), j210  = some out → g_S 21 D a (mE a cI cZ q_200.2) s.heap H locs → lv_has ls 6 [(0, .ref (a 0)), (2, .int x2), (4, .int v4_56)] → W p l e rmX10_finds s m args below meth c H locs 0 0 Q (F0 m 210 ls []) := by
                              intro  H locs ls h hI hl
                              rw [hj210] at h
                              refine lv_iconst (v := 1) hx hb dX10_finds_210 (by decide) ?_
                              refine lv_goto (tgt := 215) hx hb dX10_finds_211 (by decide) ?_
                              exact J215 _ _ _ _ h hI (lv_sub hl [0, 1, 2] rfl)
                            refine lv_if_ne (tgt := 210) hx hb dX10_finds_203 (by decide) (fun c_203 => ?_) (fun c_203 => ?_)
                            · have h := (if_neg c_203).symm.trans h
                              exact J210 _ _ _ h hI (lv_sub hl [1, 2, 3] rfl)
                            · have h := (if_pos c_203).symm.trans h
                              refine lv_iload_n hx hb dX10_finds_206 rfl (lv_at hl 0 rfl) ?_
                              refine lv_if_eq (tgt := 214) hx hb dX10_finds_207 (by decide) (fun c_207 => ?_) (fun c_207 => ?_)
                              · have h := (if_pos c_207).symm.trans h
                                refine lv_iconst (v := 0) hx hb dX10_finds_214 (by decide) ?_
                                exact J215 _ _ _ _ h hI (lv_sub hl [1, 2, 3] rfl)
                              · have h := (if_neg c_207).symm.trans h
                                exact J210 _ _ _ h hI (lv_sub hl [1, 2, 3] rfl)
                          obtain ⟨j185, hj185, h⟩ := gJoin0_in h
                          have J185 : ∀ (H : Heap) (locs : List Loc) (ls : Array Slot), j185  = some out → g_S 21 D a (mE a cI cZ q_175.2) s.heap H locs → lv_has ls 6 [(0, .ref (a 0)), (2, .int x2), (4, .int v4_56)] → W p l e rmX10_finds s m args below meth c H locs 0 0 Q (F0 m 185 ls []) := by
                            intro  H locs ls h hI hl
                            rw [hj185] at h
                            refine lv_iconst (v := 1) hx hb dX10_finds_185 (by decide) ?_
                            refine lv_goto (tgt := 190) hx hb dX10_finds_186 (by decide) ?_
                            exact J190 _ _ _ _ h hI (lv_sub hl [0, 1, 2] rfl)
                          refine lv_if_ne (tgt := 185) hx hb dX10_finds_178 (by decide) (fun c_178 => ?_) (fun c_178 => ?_)
                          · have h := (if_neg c_178).symm.trans h
                            exact J185 _ _ _ h hI (lv_sub hl [0, 1, 3] rfl)
                          · have h := (if_pos c_178).symm.trans h
                            refine lv_iload_n hx hb dX10_finds_181 rfl (lv_at hl 2 rfl) ?_
                            refine lv_if_eq (tgt := 189) hx hb dX10_finds_182 (by decide) (fun c_182 => ?_) (fun c_182 => ?_)
                            · have h := (if_pos c_182).symm.trans h
                              refine lv_iconst (v := 0) hx hb dX10_finds_189 (by decide) ?_
                              exact J190 _ _ _ _ h hI (lv_sub hl [0, 1, 3] rfl)
                            · have h := (if_neg c_182).symm.trans h
                              exact J185 _ _ _ h hI (lv_sub hl [0, 1, 3] rfl)
                    refine lv_if_eq (tgt := 147) hx hb dX10_finds_82 (by decide) (fun c_82 => ?_) (fun c_82 => ?_)
                    · have h := (if_pos c_82).symm.trans h
                      exact J147 _ _ _ _ _ h hI (lv_sub hl [1, 2, 3, 4, 0] rfl)
                    · have h := (if_neg c_82).symm.trans h
                      refine lv_iload hx hb dX10_finds_85 (lv_at hl 4 rfl) ?_
                      refine lv_bipush (v := 12) hx hb dX10_finds_87 (by decide) ?_
                      refine lv_irem hx hb dX10_finds_89 (by decide) ?_
                      refine lv_iconst (v := 1) hx hb dX10_finds_90 (by decide) ?_
                      refine lv_iadd hx hb dX10_finds_91 ?_
                      refine lv_aload_n hx hb dX10_finds_92 rfl (lv_at hl 1 rfl) ?_
                      refine g_get F hI (by decide) mE_0 rfl ku_X10 0 (by decide) kf_X10_71 rfl dX10_finds_93 ?_
                      refine lv_icmp_ge (tgt := 147) hx hb dX10_finds_96 (by decide) (fun c_96 => ?_) (fun c_96 => ?_)
                      · have h := (if_pos c_96).symm.trans h
                        exact J147 _ _ _ _ _ h hI (lv_sub hl [1, 2, 3, 4, 0] rfl)
                      · have h := (if_neg c_96).symm.trans h
                        refine lv_aload_n hx hb dX10_finds_99 rfl (lv_at hl 1 rfl) ?_
                        refine lv_iload hx hb dX10_finds_100 (lv_at hl 4 rfl) ?_
                        refine lv_iload hx hb dX10_finds_102 (lv_at hl 4 rfl) ?_
                        refine lv_iconst (v := 1) hx hb dX10_finds_104 (by decide) ?_
                        refine lv_iadd hx hb dX10_finds_105 ?_
                        refine lv_iload_n hx hb dX10_finds_106 rfl (lv_at hl 2 rfl) ?_
                        obtain ⟨q_107, e_107, h⟩ := gBind_in h
                        refine g_callVi (E' := mE a cI cZ q_107.2) (k0 := 0) (As := [.int v4_56, .int (v4_56 + 1), .int x2]) (rest := []) F hI (c_X10_falls l D a cI cZ F.2.2 N s_56 v4_56 (v4_56 + 1) x2 q_107 e_107) kb_X10_falls ki_X10_falls ks_X10_falls km_X10_132 ⟨Nat.le_of_ble_eq_true rfl, Nat.le_of_ble_eq_true rfl, rfl, rfl⟩ (by decide) mE_0 rfl hl.1 rfl (Nat.le_of_ble_eq_true rfl) ⟨Nat.zero_le _, Nat.zero_le _⟩ dX10_finds_107 (fun H locs hI => ?_)
                        obtain ⟨j122, hj122, h⟩ := gJoin1_in h
                        have J122 : ∀ (w0_122 : Int32) (H : Heap) (locs : List Loc) (ls : Array Slot), j122 w0_122 = some out → g_S 21 D a (mE a cI cZ q_107.2) s.heap H locs → lv_has ls 6 [(0, .ref (a 0)), (2, .int x2), (4, .int v4_56), (5, .int (f_X10_isCell s_56 (v4_56 - v4_56 / 12 * 12) (v4_56 / 12)))] → W p l e rmX10_finds s m args below meth c H locs 0 0 Q (F0 m 122 ls [.int w0_122]) := by
                          intro w0_122 H locs ls h hI hl
                          rw [hj122] at h
                          refine lv_istore_n (lv' := [(3, .int w0_122), (0, .ref (a 0)), (2, .int x2), (4, .int v4_56), (5, .int (f_X10_isCell s_56 (v4_56 - v4_56 / 12 * 12) (v4_56 / 12)))]) hx hb dX10_finds_122 rfl hl (by decide) rfl (fun ls hl => ?_)
                          refine lv_aload_n hx hb dX10_finds_123 rfl (lv_at hl 1 rfl) ?_
                          refine lv_iload hx hb dX10_finds_124 (lv_at hl 3 rfl) ?_
                          refine lv_iconst (v := 1) hx hb dX10_finds_126 (by decide) ?_
                          refine lv_iadd hx hb dX10_finds_127 ?_
                          refine lv_iload hx hb dX10_finds_128 (lv_at hl 3 rfl) ?_
                          refine lv_iload_n hx hb dX10_finds_130 rfl (lv_at hl 2 rfl) ?_
                          obtain ⟨q_131, e_131, h⟩ := gBind_in h
                          refine g_callVi (E' := mE a cI cZ q_131.2) (k0 := 0) (As := [.int (v4_56 + 1), .int v4_56, .int x2]) (rest := []) F hI (c_X10_falls l D a cI cZ F.2.2 N q_107.2 (v4_56 + 1) v4_56 x2 q_131 e_131) kb_X10_falls ki_X10_falls ks_X10_falls km_X10_132 ⟨Nat.le_of_ble_eq_true rfl, Nat.le_of_ble_eq_true rfl, rfl, rfl⟩ (by decide) mE_0 rfl hl.1 rfl (Nat.le_of_ble_eq_true rfl) ⟨Nat.zero_le _, Nat.zero_le _⟩ dX10_finds_131 (fun H locs hI => ?_)
                          obtain ⟨j146, hj146, h⟩ := gJoin1_in h
                          have J146 : ∀ (w0_146 : Int32) (H : Heap) (locs : List Loc) (ls : Array Slot), j146 w0_146 = some out → g_S 21 D a (mE a cI cZ q_131.2) s.heap H locs → lv_has ls 6 [(0, .ref (a 0)), (2, .int x2), (4, .int v4_56), (5, .int (f_X10_isCell s_56 (v4_56 - v4_56 / 12 * 12) (v4_56 / 12)))] → W p l e rmX10_finds s m args below meth c H locs 0 0 Q (F0 m 146 ls [.int w0_146]) := by
                            intro w0_146 H locs ls h hI hl
                            rw [hj146] at h
                            refine lv_istore_n (lv' := [(3, .int w0_146), (0, .ref (a 0)), (2, .int x2), (4, .int v4_56), (5, .int (f_X10_isCell s_56 (v4_56 - v4_56 / 12 * 12) (v4_56 / 12)))]) hx hb dX10_finds_146 rfl hl (by decide) rfl (fun ls hl => ?_)
                            exact J147 _ _ _ _ _ h hI (lv_sub hl [1, 2, 0, 3, 4] rfl)
                          obtain ⟨j141, hj141, h⟩ := gJoin0_in h
                          have J141 : ∀ (H : Heap) (locs : List Loc) (ls : Array Slot), j141  = some out → g_S 21 D a (mE a cI cZ q_131.2) s.heap H locs → lv_has ls 6 [(0, .ref (a 0)), (2, .int x2), (4, .int v4_56), (5, .int (f_X10_isCell s_56 (v4_56 - v4_56 / 12 * 12) (v4_56 / 12)))] → W p l e rmX10_finds s m args below meth c H locs 0 0 Q (F0 m 141 ls []) := by
                            intro  H locs ls h hI hl
                            rw [hj141] at h
                            refine lv_iconst (v := 1) hx hb dX10_finds_141 (by decide) ?_
                            refine lv_goto (tgt := 146) hx hb dX10_finds_142 (by decide) ?_
                            exact J146 _ _ _ _ h hI (lv_sub hl [0, 1, 2, 3] rfl)
                          refine lv_if_ne (tgt := 141) hx hb dX10_finds_134 (by decide) (fun c_134 => ?_) (fun c_134 => ?_)
                          · have h := (if_neg c_134).symm.trans h
                            exact J141 _ _ _ h hI (lv_sub hl [1, 2, 3, 4] rfl)
                          · have h := (if_pos c_134).symm.trans h
                            refine lv_iload_n hx hb dX10_finds_137 rfl (lv_at hl 0 rfl) ?_
                            refine lv_if_eq (tgt := 145) hx hb dX10_finds_138 (by decide) (fun c_138 => ?_) (fun c_138 => ?_)
                            · have h := (if_pos c_138).symm.trans h
                              refine lv_iconst (v := 0) hx hb dX10_finds_145 (by decide) ?_
                              exact J146 _ _ _ _ h hI (lv_sub hl [1, 2, 3, 4] rfl)
                            · have h := (if_neg c_138).symm.trans h
                              exact J141 _ _ _ h hI (lv_sub hl [1, 2, 3, 4] rfl)
                        obtain ⟨j117, hj117, h⟩ := gJoin0_in h
                        have J117 : ∀ (H : Heap) (locs : List Loc) (ls : Array Slot), j117  = some out → g_S 21 D a (mE a cI cZ q_107.2) s.heap H locs → lv_has ls 6 [(0, .ref (a 0)), (2, .int x2), (4, .int v4_56), (5, .int (f_X10_isCell s_56 (v4_56 - v4_56 / 12 * 12) (v4_56 / 12)))] → W p l e rmX10_finds s m args below meth c H locs 0 0 Q (F0 m 117 ls []) := by
                          intro  H locs ls h hI hl
                          rw [hj117] at h
                          refine lv_iconst (v := 1) hx hb dX10_finds_117 (by decide) ?_
                          refine lv_goto (tgt := 122) hx hb dX10_finds_118 (by decide) ?_
                          exact J122 _ _ _ _ h hI (lv_sub hl [0, 1, 2, 3] rfl)
                        refine lv_if_ne (tgt := 117) hx hb dX10_finds_110 (by decide) (fun c_110 => ?_) (fun c_110 => ?_)
                        · have h := (if_neg c_110).symm.trans h
                          exact J117 _ _ _ h hI (lv_sub hl [1, 2, 4, 0] rfl)
                        · have h := (if_pos c_110).symm.trans h
                          refine lv_iload_n hx hb dX10_finds_113 rfl (lv_at hl 3 rfl) ?_
                          refine lv_if_eq (tgt := 121) hx hb dX10_finds_114 (by decide) (fun c_114 => ?_) (fun c_114 => ?_)
                          · have h := (if_pos c_114).symm.trans h
                            refine lv_iconst (v := 0) hx hb dX10_finds_121 (by decide) ?_
                            exact J122 _ _ _ _ h hI (lv_sub hl [1, 2, 4, 0] rfl)
                          · have h := (if_neg c_114).symm.trans h
                            exact J117 _ _ _ h hI (lv_sub hl [1, 2, 4, 0] rfl)
              exact L56 _ _ _ _ _ _ _ h hI (lv_sub hl [2, 3, 1, 0] rfl)
        exact L47 _ _ _ _ _ _ h hI (lv_sub hl [1, 3, 0] rfl)
      · have h := (if_neg c_6).symm.trans h
        refine lv_aload_n hx hb dX10_finds_9 rfl (lv_at hl 0 rfl) ?_
        refine g_get F hI (by decide) mE_0 rfl ku_X10 19 (by decide) kf_X10_53 rfl dX10_finds_10 ?_
        refine lv_iload_n hx hb dX10_finds_13 rfl (lv_at hl 3 rfl) ?_
        refine lv_ldc (v := 1000000000) hx hb F.1.2.2.2.1 (F.1.2.2.2.2 _ kk_X10_127) dX10_finds_14 ?_
        obtain ⟨g_16, h⟩ := g_guard h
        refine g_iast (E' := mE a cI cZ (g_pa s_2 14 v3_2 1000000000)) F hI (by decide) mE_a14 0 rfl g_16 rfl mE_sa dX10_finds_16 (fun H locs hI => ?_)
        refine lv_aload_n hx hb dX10_finds_17 rfl (lv_at hl 0 rfl) ?_
        refine g_get F hI (by decide) mE_0 rfl ku_X10 20 (by decide) kf_X10_56 rfl dX10_finds_18 ?_
        refine lv_iload_n hx hb dX10_finds_21 rfl (lv_at hl 3 rfl) ?_
        refine lv_ldc (v := 1000000000) hx hb F.1.2.2.2.1 (F.1.2.2.2.2 _ kk_X10_127) dX10_finds_22 ?_
        obtain ⟨g_24, h⟩ := g_guard h
        refine g_iast (E' := mE a cI cZ (g_pa (g_pa s_2 14 v3_2 1000000000) 15 v3_2 1000000000)) F hI (by decide) mE_a15 0 rfl g_24 rfl mE_sa dX10_finds_24 (fun H locs hI => ?_)
        refine lv_iinc (v := v3_2 + 1) (lv' := [(3, .int (v3_2 + 1)), (0, .ref (a 0)), (1, .int x1), (2, .int x2)]) hx hb dX10_finds_25 hl (k := 3) rfl rfl (by decide) rfl (fun ls hl => ?_)
        refine lv_goto (tgt := 2) hx hb dX10_finds_28 (by decide) ?_
        exact ih2 _ _ _ _ _ h hI (lv_sub hl [1, 2, 3, 0] rfl)
  exact L2 _ _ _ _ _ _ h hI (lv_sub hl [1, 2, 3, 0] rfl)
/-- SpurlineModel.control(II)I -/
def f_X10_control (N : Nat) (σ : gSt) (x1 x2 : Int32) : Option (Int32 × gSt) :=
  gJoin1 (fun (w0_40 : Int32) =>
      gLoop2 (fun self45 (v4_45 : Int32) (v5_45 : Int32) =>
        if σ.2 2 ≤ v5_45 then
          if (f_X10_asked_ σ (f_X10_isCell σ x1 x2) v4_45).1 = 0 then
            some (0, (f_X10_asked_ σ (f_X10_isCell σ x1 x2) v4_45).2)
          else
            if ((f_X10_asked_ σ (f_X10_isCell σ x1 x2) v4_45).2).2 2 < 0 ∨ 12 ≤ (((f_X10_asked_ σ (f_X10_isCell σ x1 x2) v4_45).2).2 2).toNatClampNeg then none else
            some (((g_sf (g_pa ((f_X10_asked_ σ (f_X10_isCell σ x1 x2) v4_45).2) 2 (((f_X10_asked_ σ (f_X10_isCell σ x1 x2) v4_45).2).2 2) ((12 * x2) + x1)) 2 (((g_pa ((f_X10_asked_ σ (f_X10_isCell σ x1 x2) v4_45).2) 2 (((f_X10_asked_ σ (f_X10_isCell σ x1 x2) v4_45).2).2 2) ((12 * x2) + x1)).2 2) + 1)).2 2) - 1, g_sf (g_pa ((f_X10_asked_ σ (f_X10_isCell σ x1 x2) v4_45).2) 2 (((f_X10_asked_ σ (f_X10_isCell σ x1 x2) v4_45).2).2 2) ((12 * x2) + x1)) 2 (((g_pa ((f_X10_asked_ σ (f_X10_isCell σ x1 x2) v4_45).2) 2 (((f_X10_asked_ σ (f_X10_isCell σ x1 x2) v4_45).2).2 2) ((12 * x2) + x1)).2 2) + 1))
        else
          gJoin1 (fun (w0_80 : Int32) =>
              self45 w0_80 (v5_45 + 1)) (fun j80 =>
          gJoin0 (
              j80 0) (fun j79 =>
            if v4_45 = 0 then
              j79
            else
              if v5_45 < 0 ∨ 12 ≤ v5_45.toNatClampNeg then none else
              if g_ga σ 2 v5_45 = (12 * x2) + x1 then
                j79
              else
                j80 1))) N w0_40 0) (fun j40 =>
  gJoin0 (
      j40 0) (fun j39 =>
    if f_X10_isCell σ x1 x2 = 0 then
      j39
    else
      if 12 ≤ σ.2 2 then
        j39
      else
        if (12 * x2) + x1 < 0 ∨ 144 ≤ ((12 * x2) + x1).toNatClampNeg then none else
        if g_ga σ 1 ((12 * x2) + x1) = 4 then
          j39
        else
          j40 1))
abbrev rmX10_control : Room := { frames := 2, cells := 0, slots := 0, locals := 44 }
theorem kb_X10_control : g_CB yX10_control cX10_control 6 (some .int) 2 := ⟨kc_X10_control, kn_X10, by decide +kernel⟩
set_option maxRecDepth 100000 in
set_option maxHeartbeats 4000000 in
theorem c_X10_control (l : Launch) (D : va_G) (a : Nat → Nat) (cI cZ : ClassId) (hj : g_Inj 21 a) (N : Nat) (σ : gSt) (x1 x2 : Int32) (out : Int32 × gSt) (hh : f_X10_control N σ x1 x2 = some out) : Met l yX10_control (Cond.code yX10_control cX10_control 6 (some .int) :: gW) rmX10_control (g_Pc 21 D a (mE a cI cZ σ) [(cI, .int), (cZ, .boolean)] [.ref (a 0), .int x1, .int x2]) (g_Qi 21 D a (mE a cI cZ out.2) out.1) 0 0 (g_Own 21 a) := by
  refine g_meti (by decide) hj (Nat.le_of_ble_eq_true rfl) ?_
  intro p e s m args below meth c Q ls F hl hI hq
  have hx := F.1.1
  have hb := F.1.2.1
  have hl : lv_has ls 6 [(0, .ref (a 0)), (1, .int x1), (2, .int x2)] := hl
  have h := hh
  unfold f_X10_control at h
  refine lv_aload_n hx hb dX10_control_0 rfl (lv_at hl 0 rfl) ?_
  refine lv_iload_n hx hb dX10_control_1 rfl (lv_at hl 1 rfl) ?_
  refine lv_iload_n hx hb dX10_control_2 rfl (lv_at hl 2 rfl) ?_
  refine g_callVi (E' := mE a cI cZ σ) (k0 := 0) (As := [.int x1, .int x2]) (rest := []) F hI (c_X10_isCell l D a cI cZ F.2.2 σ x1 x2) kb_X10_isCell ki_X10_isCell ks_X10_isCell km_X10_91 ⟨Nat.le_of_ble_eq_true rfl, Nat.le_of_ble_eq_true rfl, rfl, rfl⟩ (by decide) mE_0 rfl hl.1 rfl (Nat.le_of_ble_eq_true rfl) ⟨Nat.zero_le _, Nat.zero_le _⟩ dX10_control_3 (fun H locs hI => ?_)
  refine lv_istore_n (lv' := [(3, .int (f_X10_isCell σ x1 x2)), (0, .ref (a 0)), (1, .int x1), (2, .int x2)]) hx hb dX10_control_6 rfl hl (by decide) rfl (fun ls hl => ?_)
  refine lv_iload_n hx hb dX10_control_7 rfl (lv_at hl 0 rfl) ?_
  obtain ⟨j40, hj40, h⟩ := gJoin1_in h
  have J40 : ∀ (w0_40 : Int32) (H : Heap) (locs : List Loc) (ls : Array Slot), j40 w0_40 = some out → g_S 21 D a (mE a cI cZ σ) s.heap H locs → lv_has ls 6 [(0, .ref (a 0)), (1, .int x1), (2, .int x2), (3, .int (f_X10_isCell σ x1 x2))] → W p l e rmX10_control s m args below meth c H locs 0 0 Q (F0 m 40 ls [.int w0_40]) := by
    intro w0_40 H locs ls h hI hl
    rw [hj40] at h
    refine lv_istore (lv' := [(4, .int w0_40), (0, .ref (a 0)), (1, .int x1), (2, .int x2), (3, .int (f_X10_isCell σ x1 x2))]) hx hb dX10_control_40 hl (by decide) rfl (fun ls hl => ?_)
    refine lv_iconst (v := 0) hx hb dX10_control_42 (by decide) ?_
    refine lv_istore (lv' := [(5, .int 0), (4, .int w0_40), (0, .ref (a 0)), (1, .int x1), (2, .int x2), (3, .int (f_X10_isCell σ x1 x2))]) hx hb dX10_control_43 hl (by decide) rfl (fun ls hl => ?_)
    obtain ⟨lp45, hz45, hs45, h⟩ := gLoop2_in h
    have L45 : ∀ (n : Nat) (v4_45 : Int32) (v5_45 : Int32) (H : Heap) (locs : List Loc) (ls : Array Slot), lp45 n v4_45 v5_45 = some out → g_S 21 D a (mE a cI cZ σ) s.heap H locs → lv_has ls 6 [(0, .ref (a 0)), (1, .int x1), (2, .int x2), (3, .int (f_X10_isCell σ x1 x2)), (4, .int v4_45), (5, .int v5_45)] → W p l e rmX10_control s m args below meth c H locs 0 0 Q (F0 m 45 ls []) := by
      intro n
      induction n with
      | zero => intro v4_45 v5_45 H locs ls h; rw [hz45] at h; cases h
      | succ n ih45 =>
        intro v4_45 v5_45 H locs ls h hI hl
        rw [hs45] at h
        refine lv_iload hx hb dX10_control_45 (lv_at hl 5 rfl) ?_
        refine lv_aload_n hx hb dX10_control_47 rfl (lv_at hl 0 rfl) ?_
        refine g_get F hI (by decide) mE_0 rfl ku_X10 6 (by decide) kf_X10_85 rfl dX10_control_48 ?_
        refine lv_icmp_ge (tgt := 88) hx hb dX10_control_51 (by decide) (fun c_51 => ?_) (fun c_51 => ?_)
        · have h := (if_pos c_51).symm.trans h
          refine lv_aload_n hx hb dX10_control_88 rfl (lv_at hl 0 rfl) ?_
          refine lv_iload_n hx hb dX10_control_89 rfl (lv_at hl 3 rfl) ?_
          refine lv_iload hx hb dX10_control_90 (lv_at hl 4 rfl) ?_
          refine g_callVi (E' := mE a cI cZ ((f_X10_asked_ σ (f_X10_isCell σ x1 x2) v4_45).2)) (k0 := 0) (As := [.int (f_X10_isCell σ x1 x2), .int v4_45]) (rest := []) F hI (c_X10_asked_ l D a cI cZ F.2.2 σ (f_X10_isCell σ x1 x2) v4_45) kb_X10_asked_ ki_X10_asked_ ks_X10_asked_ km_X10_95 ⟨Nat.le_of_ble_eq_true rfl, Nat.le_of_ble_eq_true rfl, rfl, rfl⟩ (by decide) mE_0 rfl hl.1 rfl (Nat.le_of_ble_eq_true rfl) ⟨Nat.zero_le _, Nat.zero_le _⟩ dX10_control_92 (fun H locs hI => ?_)
          refine lv_if_ne (tgt := 100) hx hb dX10_control_95 (by decide) (fun c_95 => ?_) (fun c_95 => ?_)
          · have h := (if_neg c_95).symm.trans h
            refine lv_aload_n hx hb dX10_control_100 rfl (lv_at hl 0 rfl) ?_
            refine g_get F hI (by decide) mE_0 rfl ku_X10 4 (by decide) kf_X10_16 rfl dX10_control_101 ?_
            refine lv_aload_n hx hb dX10_control_104 rfl (lv_at hl 0 rfl) ?_
            refine g_get F hI (by decide) mE_0 rfl ku_X10 6 (by decide) kf_X10_85 rfl dX10_control_105 ?_
            refine lv_bipush (v := 12) hx hb dX10_control_108 (by decide) ?_
            refine lv_iload_n hx hb dX10_control_110 rfl (lv_at hl 2 rfl) ?_
            refine lv_imul hx hb dX10_control_111 ?_
            refine lv_iload_n hx hb dX10_control_112 rfl (lv_at hl 1 rfl) ?_
            refine lv_iadd hx hb dX10_control_113 ?_
            obtain ⟨g_114, h⟩ := g_guard h
            refine g_iast (E' := mE a cI cZ (g_pa ((f_X10_asked_ σ (f_X10_isCell σ x1 x2) v4_45).2) 2 (((f_X10_asked_ σ (f_X10_isCell σ x1 x2) v4_45).2).2 2) ((12 * x2) + x1))) F hI (by decide) mE_a2 0 rfl g_114 rfl mE_sa dX10_control_114 (fun H locs hI => ?_)
            refine lv_aload_n hx hb dX10_control_115 rfl (lv_at hl 0 rfl) ?_
            refine lv_dup hx hb dX10_control_116 rfl ?_
            refine g_get F hI (by decide) mE_0 rfl ku_X10 6 (by decide) kf_X10_85 rfl dX10_control_117 ?_
            refine lv_iconst (v := 1) hx hb dX10_control_120 (by decide) ?_
            refine lv_iadd hx hb dX10_control_121 ?_
            refine g_put (E' := mE a cI cZ (g_sf (g_pa ((f_X10_asked_ σ (f_X10_isCell σ x1 x2) v4_45).2) 2 (((f_X10_asked_ σ (f_X10_isCell σ x1 x2) v4_45).2).2 2) ((12 * x2) + x1)) 2 (((g_pa ((f_X10_asked_ σ (f_X10_isCell σ x1 x2) v4_45).2) 2 (((f_X10_asked_ σ (f_X10_isCell σ x1 x2) v4_45).2).2 2) ((12 * x2) + x1)).2 2) + 1))) F hI (by decide) mE_0 rfl ku_X10 tyX10_ok nmX10 6 (by decide) kf_X10_85 rfl rfl rfl rfl (Nat.le_of_ble_eq_true rfl) rfl mE_sf dX10_control_122 (fun H locs hI => ?_)
            refine lv_aload_n hx hb dX10_control_125 rfl (lv_at hl 0 rfl) ?_
            refine g_get F hI (by decide) mE_0 rfl ku_X10 6 (by decide) kf_X10_85 rfl dX10_control_126 ?_
            refine lv_iconst (v := 1) hx hb dX10_control_129 (by decide) ?_
            refine lv_isub hx hb dX10_control_130 ?_
            have h := Option.some.inj h
            subst h
            exact hq _ _ _ _ hI dX10_control_131
          · have h := (if_pos c_95).symm.trans h
            refine lv_iconst (v := 0) hx hb dX10_control_98 (by decide) ?_
            have h := Option.some.inj h
            subst h
            exact hq _ _ _ _ hI dX10_control_99
        · have h := (if_neg c_51).symm.trans h
          refine lv_iload hx hb dX10_control_54 (lv_at hl 4 rfl) ?_
          obtain ⟨j80, hj80, h⟩ := gJoin1_in h
          have J80 : ∀ (w0_80 : Int32) (H : Heap) (locs : List Loc) (ls : Array Slot), j80 w0_80 = some out → g_S 21 D a (mE a cI cZ σ) s.heap H locs → lv_has ls 6 [(0, .ref (a 0)), (1, .int x1), (2, .int x2), (3, .int (f_X10_isCell σ x1 x2)), (5, .int v5_45)] → W p l e rmX10_control s m args below meth c H locs 0 0 Q (F0 m 80 ls [.int w0_80]) := by
            intro w0_80 H locs ls h hI hl
            rw [hj80] at h
            refine lv_istore (lv' := [(4, .int w0_80), (0, .ref (a 0)), (1, .int x1), (2, .int x2), (3, .int (f_X10_isCell σ x1 x2)), (5, .int v5_45)]) hx hb dX10_control_80 hl (by decide) rfl (fun ls hl => ?_)
            refine lv_iinc (v := v5_45 + 1) (lv' := [(5, .int (v5_45 + 1)), (4, .int w0_80), (0, .ref (a 0)), (1, .int x1), (2, .int x2), (3, .int (f_X10_isCell σ x1 x2))]) hx hb dX10_control_82 hl (k := 5) rfl rfl (by decide) rfl (fun ls hl => ?_)
            refine lv_goto (tgt := 45) hx hb dX10_control_85 (by decide) ?_
            exact ih45 _ _ _ _ _ h hI (lv_sub hl [2, 3, 4, 5, 1, 0] rfl)
          obtain ⟨j79, hj79, h⟩ := gJoin0_in h
          have J79 : ∀ (H : Heap) (locs : List Loc) (ls : Array Slot), j79  = some out → g_S 21 D a (mE a cI cZ σ) s.heap H locs → lv_has ls 6 [(0, .ref (a 0)), (1, .int x1), (2, .int x2), (3, .int (f_X10_isCell σ x1 x2)), (5, .int v5_45)] → W p l e rmX10_control s m args below meth c H locs 0 0 Q (F0 m 79 ls []) := by
            intro  H locs ls h hI hl
            rw [hj79] at h
            refine lv_iconst (v := 0) hx hb dX10_control_79 (by decide) ?_
            exact J80 _ _ _ _ h hI (lv_sub hl [0, 1, 2, 3, 4] rfl)
          refine lv_if_eq (tgt := 79) hx hb dX10_control_56 (by decide) (fun c_56 => ?_) (fun c_56 => ?_)
          · have h := (if_pos c_56).symm.trans h
            exact J79 _ _ _ h hI (lv_sub hl [0, 1, 2, 3, 5] rfl)
          · have h := (if_neg c_56).symm.trans h
            refine lv_aload_n hx hb dX10_control_59 rfl (lv_at hl 0 rfl) ?_
            refine g_get F hI (by decide) mE_0 rfl ku_X10 4 (by decide) kf_X10_16 rfl dX10_control_60 ?_
            refine lv_iload hx hb dX10_control_63 (lv_at hl 5 rfl) ?_
            obtain ⟨g_65, h⟩ := g_guard h
            refine g_iald F hI (by decide) mE_a2 0 rfl g_65 dX10_control_65 ?_
            refine lv_bipush (v := 12) hx hb dX10_control_66 (by decide) ?_
            refine lv_iload_n hx hb dX10_control_68 rfl (lv_at hl 2 rfl) ?_
            refine lv_imul hx hb dX10_control_69 ?_
            refine lv_iload_n hx hb dX10_control_70 rfl (lv_at hl 1 rfl) ?_
            refine lv_iadd hx hb dX10_control_71 ?_
            refine lv_icmp_eq (tgt := 79) hx hb dX10_control_72 (by decide) (fun c_72 => ?_) (fun c_72 => ?_)
            · have h := (if_pos c_72).symm.trans h
              exact J79 _ _ _ h hI (lv_sub hl [0, 1, 2, 3, 5] rfl)
            · have h := (if_neg c_72).symm.trans h
              refine lv_iconst (v := 1) hx hb dX10_control_75 (by decide) ?_
              refine lv_goto (tgt := 80) hx hb dX10_control_76 (by decide) ?_
              exact J80 _ _ _ _ h hI (lv_sub hl [0, 1, 2, 3, 5] rfl)
    exact L45 _ _ _ _ _ _ h hI (lv_sub hl [2, 3, 4, 5, 1, 0] rfl)
  obtain ⟨j39, hj39, h⟩ := gJoin0_in h
  have J39 : ∀ (H : Heap) (locs : List Loc) (ls : Array Slot), j39  = some out → g_S 21 D a (mE a cI cZ σ) s.heap H locs → lv_has ls 6 [(0, .ref (a 0)), (1, .int x1), (2, .int x2), (3, .int (f_X10_isCell σ x1 x2))] → W p l e rmX10_control s m args below meth c H locs 0 0 Q (F0 m 39 ls []) := by
    intro  H locs ls h hI hl
    rw [hj39] at h
    refine lv_iconst (v := 0) hx hb dX10_control_39 (by decide) ?_
    exact J40 _ _ _ _ h hI (lv_sub hl [0, 1, 2, 3] rfl)
  refine lv_if_eq (tgt := 39) hx hb dX10_control_8 (by decide) (fun c_8 => ?_) (fun c_8 => ?_)
  · have h := (if_pos c_8).symm.trans h
    exact J39 _ _ _ h hI (lv_sub hl [1, 2, 3, 0] rfl)
  · have h := (if_neg c_8).symm.trans h
    refine lv_aload_n hx hb dX10_control_11 rfl (lv_at hl 1 rfl) ?_
    refine g_get F hI (by decide) mE_0 rfl ku_X10 6 (by decide) kf_X10_85 rfl dX10_control_12 ?_
    refine lv_bipush (v := 12) hx hb dX10_control_15 (by decide) ?_
    refine lv_icmp_ge (tgt := 39) hx hb dX10_control_17 (by decide) (fun c_17 => ?_) (fun c_17 => ?_)
    · have h := (if_pos c_17).symm.trans h
      exact J39 _ _ _ h hI (lv_sub hl [1, 2, 3, 0] rfl)
    · have h := (if_neg c_17).symm.trans h
      refine lv_aload_n hx hb dX10_control_20 rfl (lv_at hl 1 rfl) ?_
      refine g_get F hI (by decide) mE_0 rfl ku_X10 3 (by decide) kf_X10_13 rfl dX10_control_21 ?_
      refine lv_bipush (v := 12) hx hb dX10_control_24 (by decide) ?_
      refine lv_iload_n hx hb dX10_control_26 rfl (lv_at hl 3 rfl) ?_
      refine lv_imul hx hb dX10_control_27 ?_
      refine lv_iload_n hx hb dX10_control_28 rfl (lv_at hl 2 rfl) ?_
      refine lv_iadd hx hb dX10_control_29 ?_
      obtain ⟨g_30, h⟩ := g_guard h
      refine g_iald F hI (by decide) mE_a1 0 rfl g_30 dX10_control_30 ?_
      refine lv_iconst (v := 4) hx hb dX10_control_31 (by decide) ?_
      refine lv_icmp_eq (tgt := 39) hx hb dX10_control_32 (by decide) (fun c_32 => ?_) (fun c_32 => ?_)
      · have h := (if_pos c_32).symm.trans h
        exact J39 _ _ _ h hI (lv_sub hl [1, 2, 3, 0] rfl)
      · have h := (if_neg c_32).symm.trans h
        refine lv_iconst (v := 1) hx hb dX10_control_35 (by decide) ?_
        refine lv_goto (tgt := 40) hx hb dX10_control_36 (by decide) ?_
        exact J40 _ _ _ _ h hI (lv_sub hl [1, 2, 3, 0] rfl)
/-- SpurlineModel.costOf(II)I -/
def f_X10_costOf (N : Nat) (σ : gSt) (x1 x2 : Int32) : Option (Int32 × gSt) :=
  if x1 < 0 ∨ 12 ≤ x1.toNatClampNeg then none else
  (f_X10_finds N σ (g_ga σ 2 x1) 0).bind (fun (s_8 : gSt) =>
  if x2 < 0 ∨ 12 ≤ x2.toNatClampNeg then none else
  if g_ga s_8 2 x2 < 0 ∨ 144 ≤ (g_ga s_8 2 x2).toNatClampNeg then none else
  if g_ga s_8 14 (g_ga s_8 2 x2) = 1000000000 then
    some ((-1), s_8)
  else
    if x2 < 0 ∨ 12 ≤ x2.toNatClampNeg then none else
    if g_ga s_8 2 x2 < 0 ∨ 144 ≤ (g_ga s_8 2 x2).toNatClampNeg then none else
    some (g_ga s_8 14 (g_ga s_8 2 x2), s_8))
abbrev rmX10_costOf : Room := { frames := 3, cells := 0, slots := 0, locals := 71 }
theorem kb_X10_costOf : g_CB yX10_costOf cX10_costOf 3 (some .int) 2 := ⟨kc_X10_costOf, kn_X10, by decide +kernel⟩
set_option maxRecDepth 100000 in
set_option maxHeartbeats 4000000 in
theorem c_X10_costOf (l : Launch) (D : va_G) (a : Nat → Nat) (cI cZ : ClassId) (hj : g_Inj 21 a) (N : Nat) (σ : gSt) (x1 x2 : Int32) (out : Int32 × gSt) (hh : f_X10_costOf N σ x1 x2 = some out) : Met l yX10_costOf (Cond.code yX10_costOf cX10_costOf 3 (some .int) :: gW) rmX10_costOf (g_Pc 21 D a (mE a cI cZ σ) [(cI, .int), (cZ, .boolean)] [.ref (a 0), .int x1, .int x2]) (g_Qi 21 D a (mE a cI cZ out.2) out.1) 0 0 (g_Own 21 a) := by
  refine g_meti (by decide) hj (Nat.le_of_ble_eq_true rfl) ?_
  intro p e s m args below meth c Q ls F hl hI hq
  have hx := F.1.1
  have hb := F.1.2.1
  have hl : lv_has ls 3 [(0, .ref (a 0)), (1, .int x1), (2, .int x2)] := hl
  have h := hh
  unfold f_X10_costOf at h
  refine lv_aload_n hx hb dX10_costOf_0 rfl (lv_at hl 0 rfl) ?_
  refine lv_aload_n hx hb dX10_costOf_1 rfl (lv_at hl 0 rfl) ?_
  refine g_get F hI (by decide) mE_0 rfl ku_X10 4 (by decide) kf_X10_16 rfl dX10_costOf_2 ?_
  refine lv_iload_n hx hb dX10_costOf_5 rfl (lv_at hl 1 rfl) ?_
  obtain ⟨g_6, h⟩ := g_guard h
  refine g_iald F hI (by decide) mE_a2 0 rfl g_6 dX10_costOf_6 ?_
  refine lv_iconst (v := 0) hx hb dX10_costOf_7 (by decide) ?_
  obtain ⟨s_8, e_8, h⟩ := gBind_in h
  refine g_callVv (E' := mE a cI cZ s_8) (k0 := 0) (As := [.int (g_ga σ 2 x1), .int 0]) (rest := []) F hI (c_X10_finds l D a cI cZ F.2.2 N σ (g_ga σ 2 x1) 0 s_8 e_8) kb_X10_finds ki_X10_finds ks_X10_finds km_X10_136 ⟨Nat.le_of_ble_eq_true rfl, Nat.le_of_ble_eq_true rfl, rfl, rfl⟩ (by decide) mE_0 rfl hl.1 rfl (Nat.le_of_ble_eq_true rfl) ⟨Nat.zero_le _, Nat.zero_le _⟩ dX10_costOf_8 (fun H locs hI => ?_)
  refine lv_aload_n hx hb dX10_costOf_11 rfl (lv_at hl 0 rfl) ?_
  refine g_get F hI (by decide) mE_0 rfl ku_X10 19 (by decide) kf_X10_53 rfl dX10_costOf_12 ?_
  refine lv_aload_n hx hb dX10_costOf_15 rfl (lv_at hl 0 rfl) ?_
  refine g_get F hI (by decide) mE_0 rfl ku_X10 4 (by decide) kf_X10_16 rfl dX10_costOf_16 ?_
  refine lv_iload_n hx hb dX10_costOf_19 rfl (lv_at hl 2 rfl) ?_
  obtain ⟨g_20, h⟩ := g_guard h
  refine g_iald F hI (by decide) mE_a2 0 rfl g_20 dX10_costOf_20 ?_
  obtain ⟨g_21, h⟩ := g_guard h
  refine g_iald F hI (by decide) mE_a14 0 rfl g_21 dX10_costOf_21 ?_
  refine lv_ldc (v := 1000000000) hx hb F.1.2.2.2.1 (F.1.2.2.2.2 _ kk_X10_127) dX10_costOf_22 ?_
  refine lv_icmp_ne (tgt := 31) hx hb dX10_costOf_24 (by decide) (fun c_24 => ?_) (fun c_24 => ?_)
  · have h := (if_neg c_24).symm.trans h
    refine lv_aload_n hx hb dX10_costOf_31 rfl (lv_at hl 0 rfl) ?_
    refine g_get F hI (by decide) mE_0 rfl ku_X10 19 (by decide) kf_X10_53 rfl dX10_costOf_32 ?_
    refine lv_aload_n hx hb dX10_costOf_35 rfl (lv_at hl 0 rfl) ?_
    refine g_get F hI (by decide) mE_0 rfl ku_X10 4 (by decide) kf_X10_16 rfl dX10_costOf_36 ?_
    refine lv_iload_n hx hb dX10_costOf_39 rfl (lv_at hl 2 rfl) ?_
    obtain ⟨g_40, h⟩ := g_guard h
    refine g_iald F hI (by decide) mE_a2 0 rfl g_40 dX10_costOf_40 ?_
    obtain ⟨g_41, h⟩ := g_guard h
    refine g_iald F hI (by decide) mE_a14 0 rfl g_41 dX10_costOf_41 ?_
    have h := Option.some.inj h
    subst h
    exact hq _ _ _ _ hI dX10_costOf_42
  · have h := (if_pos c_24).symm.trans h
    refine lv_iconst (v := -1) hx hb dX10_costOf_27 (by decide) ?_
    refine lv_goto (tgt := 42) hx hb dX10_costOf_28 (by decide) ?_
    have h := Option.some.inj h
    subst h
    exact hq _ _ _ _ hI dX10_costOf_42
/-- SpurlineModel.cost(II)I -/
def f_X10_cost (N : Nat) (σ : gSt) (x1 x2 : Int32) : Option (Int32 × gSt) :=
  gJoin1 (fun (w0_22 : Int32) =>
      if (f_X10_asked σ w0_22).1 = 0 then
        some (0, (f_X10_asked σ w0_22).2)
      else
        (f_X10_costOf N ((f_X10_asked σ w0_22).2) x1 x2).bind (fun (q_31 : Int32 × gSt) =>
        some (q_31.1, q_31.2))) (fun j22 =>
  gJoin0 (
      j22 0) (fun j21 =>
    if f_X10_isControl σ x1 = 0 then
      j21
    else
      if f_X10_isControl σ x2 = 0 then
        j21
      else
        j22 1))
abbrev rmX10_cost : Room := { frames := 4, cells := 0, slots := 0, locals := 93 }
theorem kb_X10_cost : g_CB yX10_cost cX10_cost 3 (some .int) 2 := ⟨kc_X10_cost, kn_X10, by decide +kernel⟩
set_option maxRecDepth 100000 in
set_option maxHeartbeats 4000000 in
theorem c_X10_cost (l : Launch) (D : va_G) (a : Nat → Nat) (cI cZ : ClassId) (hj : g_Inj 21 a) (N : Nat) (σ : gSt) (x1 x2 : Int32) (out : Int32 × gSt) (hh : f_X10_cost N σ x1 x2 = some out) : Met l yX10_cost (Cond.code yX10_cost cX10_cost 3 (some .int) :: gW) rmX10_cost (g_Pc 21 D a (mE a cI cZ σ) [(cI, .int), (cZ, .boolean)] [.ref (a 0), .int x1, .int x2]) (g_Qi 21 D a (mE a cI cZ out.2) out.1) 0 0 (g_Own 21 a) := by
  refine g_meti (by decide) hj (Nat.le_of_ble_eq_true rfl) ?_
  intro p e s m args below meth c Q ls F hl hI hq
  have hx := F.1.1
  have hb := F.1.2.1
  have hl : lv_has ls 3 [(0, .ref (a 0)), (1, .int x1), (2, .int x2)] := hl
  have h := hh
  unfold f_X10_cost at h
  refine lv_aload_n hx hb dX10_cost_0 rfl (lv_at hl 0 rfl) ?_
  refine lv_aload_n hx hb dX10_cost_1 rfl (lv_at hl 0 rfl) ?_
  refine lv_iload_n hx hb dX10_cost_2 rfl (lv_at hl 1 rfl) ?_
  refine g_callVi (E' := mE a cI cZ σ) (k0 := 0) (As := [.int x1]) (rest := [.ref (a 0)]) F hI (c_X10_isControl l D a cI cZ F.2.2 σ x1) kb_X10_isControl ki_X10_isControl ks_X10_isControl km_X10_140 ⟨Nat.le_of_ble_eq_true rfl, Nat.le_of_ble_eq_true rfl, rfl, rfl⟩ (by decide) mE_0 rfl hl.1 rfl (Nat.le_of_ble_eq_true rfl) ⟨Nat.zero_le _, Nat.zero_le _⟩ dX10_cost_3 (fun H locs hI => ?_)
  obtain ⟨j22, hj22, h⟩ := gJoin1_in h
  have J22 : ∀ (w0_22 : Int32) (H : Heap) (locs : List Loc) (ls : Array Slot), j22 w0_22 = some out → g_S 21 D a (mE a cI cZ σ) s.heap H locs → lv_has ls 3 [(0, .ref (a 0)), (1, .int x1), (2, .int x2)] → W p l e rmX10_cost s m args below meth c H locs 0 0 Q (F0 m 22 ls [.int w0_22, .ref (a 0)]) := by
    intro w0_22 H locs ls h hI hl
    rw [hj22] at h
    refine g_callVi (E' := mE a cI cZ ((f_X10_asked σ w0_22).2)) (k0 := 0) (As := [.int w0_22]) (rest := []) F hI (c_X10_asked l D a cI cZ F.2.2 σ w0_22) kb_X10_asked ki_X10_asked ks_X10_asked km_X10_103 ⟨Nat.le_of_ble_eq_true rfl, Nat.le_of_ble_eq_true rfl, rfl, rfl⟩ (by decide) mE_0 rfl hl.1 rfl (Nat.le_of_ble_eq_true rfl) ⟨Nat.zero_le _, Nat.zero_le _⟩ dX10_cost_22 (fun H locs hI => ?_)
    refine lv_if_eq (tgt := 37) hx hb dX10_cost_25 (by decide) (fun c_25 => ?_) (fun c_25 => ?_)
    · have h := (if_pos c_25).symm.trans h
      refine lv_iconst (v := 0) hx hb dX10_cost_37 (by decide) ?_
      have h := Option.some.inj h
      subst h
      exact hq _ _ _ _ hI dX10_cost_38
    · have h := (if_neg c_25).symm.trans h
      refine lv_aload_n hx hb dX10_cost_28 rfl (lv_at hl 0 rfl) ?_
      refine lv_iload_n hx hb dX10_cost_29 rfl (lv_at hl 1 rfl) ?_
      refine lv_iload_n hx hb dX10_cost_30 rfl (lv_at hl 2 rfl) ?_
      obtain ⟨q_31, e_31, h⟩ := gBind_in h
      refine g_callVi (E' := mE a cI cZ q_31.2) (k0 := 0) (As := [.int x1, .int x2]) (rest := []) F hI (c_X10_costOf l D a cI cZ F.2.2 N ((f_X10_asked σ w0_22).2) x1 x2 q_31 e_31) kb_X10_costOf ki_X10_costOf ks_X10_costOf km_X10_143 ⟨Nat.le_of_ble_eq_true rfl, Nat.le_of_ble_eq_true rfl, rfl, rfl⟩ (by decide) mE_0 rfl hl.1 rfl (Nat.le_of_ble_eq_true rfl) ⟨Nat.zero_le _, Nat.zero_le _⟩ dX10_cost_31 (fun H locs hI => ?_)
      refine lv_goto (tgt := 38) hx hb dX10_cost_34 (by decide) ?_
      have h := Option.some.inj h
      subst h
      exact hq _ _ _ _ hI dX10_cost_38
  obtain ⟨j21, hj21, h⟩ := gJoin0_in h
  have J21 : ∀ (H : Heap) (locs : List Loc) (ls : Array Slot), j21  = some out → g_S 21 D a (mE a cI cZ σ) s.heap H locs → lv_has ls 3 [(0, .ref (a 0)), (1, .int x1), (2, .int x2)] → W p l e rmX10_cost s m args below meth c H locs 0 0 Q (F0 m 21 ls [.ref (a 0)]) := by
    intro  H locs ls h hI hl
    rw [hj21] at h
    refine lv_iconst (v := 0) hx hb dX10_cost_21 (by decide) ?_
    exact J22 _ _ _ _ h hI (lv_sub hl [0, 1, 2] rfl)
  refine lv_if_eq (tgt := 21) hx hb dX10_cost_6 (by decide) (fun c_6 => ?_) (fun c_6 => ?_)
  · have h := (if_pos c_6).symm.trans h
    exact J21 _ _ _ h hI (lv_sub hl [0, 1, 2] rfl)
  · have h := (if_neg c_6).symm.trans h
    refine lv_aload_n hx hb dX10_cost_9 rfl (lv_at hl 0 rfl) ?_
    refine lv_iload_n hx hb dX10_cost_10 rfl (lv_at hl 2 rfl) ?_
    refine g_callVi (E' := mE a cI cZ σ) (k0 := 0) (As := [.int x2]) (rest := [.ref (a 0)]) F hI (c_X10_isControl l D a cI cZ F.2.2 σ x2) kb_X10_isControl ki_X10_isControl ks_X10_isControl km_X10_140 ⟨Nat.le_of_ble_eq_true rfl, Nat.le_of_ble_eq_true rfl, rfl, rfl⟩ (by decide) mE_0 rfl hl.1 rfl (Nat.le_of_ble_eq_true rfl) ⟨Nat.zero_le _, Nat.zero_le _⟩ dX10_cost_11 (fun H locs hI => ?_)
    refine lv_if_eq (tgt := 21) hx hb dX10_cost_14 (by decide) (fun c_14 => ?_) (fun c_14 => ?_)
    · have h := (if_pos c_14).symm.trans h
      exact J21 _ _ _ h hI (lv_sub hl [0, 1, 2] rfl)
    · have h := (if_neg c_14).symm.trans h
      refine lv_iconst (v := 1) hx hb dX10_cost_17 (by decide) ?_
      refine lv_goto (tgt := 22) hx hb dX10_cost_18 (by decide) ?_
      exact J22 _ _ _ _ h hI (lv_sub hl [0, 1, 2] rfl)
/-- SpurlineModel.costByCells(II)I -/
def f_X10_costByCells (N : Nat) (σ : gSt) (x1 x2 : Int32) : Option (Int32 × gSt) :=
  (f_X10_cost N σ x1 x2).bind (fun (q_3 : Int32 × gSt) =>
  some (q_3.1, q_3.2))
abbrev rmX10_costByCells : Room := { frames := 5, cells := 0, slots := 0, locals := 115 }
theorem kb_X10_costByCells : g_CB yX10_costByCells cX10_costByCells 3 (some .int) 2 := ⟨kc_X10_costByCells, kn_X10, by decide +kernel⟩
set_option maxRecDepth 100000 in
set_option maxHeartbeats 4000000 in
theorem c_X10_costByCells (l : Launch) (D : va_G) (a : Nat → Nat) (cI cZ : ClassId) (hj : g_Inj 21 a) (N : Nat) (σ : gSt) (x1 x2 : Int32) (out : Int32 × gSt) (hh : f_X10_costByCells N σ x1 x2 = some out) : Met l yX10_costByCells (Cond.code yX10_costByCells cX10_costByCells 3 (some .int) :: gW) rmX10_costByCells (g_Pc 21 D a (mE a cI cZ σ) [(cI, .int), (cZ, .boolean)] [.ref (a 0), .int x1, .int x2]) (g_Qi 21 D a (mE a cI cZ out.2) out.1) 0 0 (g_Own 21 a) := by
  refine g_meti (by decide) hj (Nat.le_of_ble_eq_true rfl) ?_
  intro p e s m args below meth c Q ls F hl hI hq
  have hx := F.1.1
  have hb := F.1.2.1
  have hl : lv_has ls 3 [(0, .ref (a 0)), (1, .int x1), (2, .int x2)] := hl
  have h := hh
  unfold f_X10_costByCells at h
  refine lv_aload_n hx hb dX10_costByCells_0 rfl (lv_at hl 0 rfl) ?_
  refine lv_iload_n hx hb dX10_costByCells_1 rfl (lv_at hl 1 rfl) ?_
  refine lv_iload_n hx hb dX10_costByCells_2 rfl (lv_at hl 2 rfl) ?_
  obtain ⟨q_3, e_3, h⟩ := gBind_in h
  refine g_callVi (E' := mE a cI cZ q_3.2) (k0 := 0) (As := [.int x1, .int x2]) (rest := []) F hI (c_X10_cost l D a cI cZ F.2.2 N σ x1 x2 q_3 e_3) kb_X10_cost ki_X10_cost ks_X10_cost km_X10_146 ⟨Nat.le_of_ble_eq_true rfl, Nat.le_of_ble_eq_true rfl, rfl, rfl⟩ (by decide) mE_0 rfl hl.1 rfl (Nat.le_of_ble_eq_true rfl) ⟨Nat.zero_le _, Nat.zero_le _⟩ dX10_costByCells_3 (fun H locs hI => ?_)
  have h := Option.some.inj h
  subst h
  exact hq _ _ _ _ hI dX10_costByCells_6
/-- SpurlineModel.climb(II)I -/
def f_X10_climb (N : Nat) (σ : gSt) (x1 x2 : Int32) : Option (Int32 × gSt) :=
  gJoin1 (fun (w0_22 : Int32) =>
      if (f_X10_asked σ w0_22).1 = 0 then
        some (0, (f_X10_asked σ w0_22).2)
      else
        (f_X10_costOf N ((f_X10_asked σ w0_22).2) x1 x2).bind (fun (q_33 : Int32 × gSt) =>
        if q_33.1 = (-1) then
          some ((-1), q_33.2)
        else
          if x2 < 0 ∨ 12 ≤ x2.toNatClampNeg then none else
          if g_ga q_33.2 2 x2 < 0 ∨ 144 ≤ (g_ga q_33.2 2 x2).toNatClampNeg then none else
          some (g_ga q_33.2 15 (g_ga q_33.2 2 x2), q_33.2))) (fun j22 =>
  gJoin0 (
      j22 0) (fun j21 =>
    if f_X10_isControl σ x1 = 0 then
      j21
    else
      if f_X10_isControl σ x2 = 0 then
        j21
      else
        j22 1))
abbrev rmX10_climb : Room := { frames := 4, cells := 0, slots := 0, locals := 93 }
theorem kb_X10_climb : g_CB yX10_climb cX10_climb 3 (some .int) 2 := ⟨kc_X10_climb, kn_X10, by decide +kernel⟩
set_option maxRecDepth 100000 in
set_option maxHeartbeats 4000000 in
theorem c_X10_climb (l : Launch) (D : va_G) (a : Nat → Nat) (cI cZ : ClassId) (hj : g_Inj 21 a) (N : Nat) (σ : gSt) (x1 x2 : Int32) (out : Int32 × gSt) (hh : f_X10_climb N σ x1 x2 = some out) : Met l yX10_climb (Cond.code yX10_climb cX10_climb 3 (some .int) :: gW) rmX10_climb (g_Pc 21 D a (mE a cI cZ σ) [(cI, .int), (cZ, .boolean)] [.ref (a 0), .int x1, .int x2]) (g_Qi 21 D a (mE a cI cZ out.2) out.1) 0 0 (g_Own 21 a) := by
  refine g_meti (by decide) hj (Nat.le_of_ble_eq_true rfl) ?_
  intro p e s m args below meth c Q ls F hl hI hq
  have hx := F.1.1
  have hb := F.1.2.1
  have hl : lv_has ls 3 [(0, .ref (a 0)), (1, .int x1), (2, .int x2)] := hl
  have h := hh
  unfold f_X10_climb at h
  refine lv_aload_n hx hb dX10_climb_0 rfl (lv_at hl 0 rfl) ?_
  refine lv_aload_n hx hb dX10_climb_1 rfl (lv_at hl 0 rfl) ?_
  refine lv_iload_n hx hb dX10_climb_2 rfl (lv_at hl 1 rfl) ?_
  refine g_callVi (E' := mE a cI cZ σ) (k0 := 0) (As := [.int x1]) (rest := [.ref (a 0)]) F hI (c_X10_isControl l D a cI cZ F.2.2 σ x1) kb_X10_isControl ki_X10_isControl ks_X10_isControl km_X10_140 ⟨Nat.le_of_ble_eq_true rfl, Nat.le_of_ble_eq_true rfl, rfl, rfl⟩ (by decide) mE_0 rfl hl.1 rfl (Nat.le_of_ble_eq_true rfl) ⟨Nat.zero_le _, Nat.zero_le _⟩ dX10_climb_3 (fun H locs hI => ?_)
  obtain ⟨j22, hj22, h⟩ := gJoin1_in h
  have J22 : ∀ (w0_22 : Int32) (H : Heap) (locs : List Loc) (ls : Array Slot), j22 w0_22 = some out → g_S 21 D a (mE a cI cZ σ) s.heap H locs → lv_has ls 3 [(0, .ref (a 0)), (1, .int x1), (2, .int x2)] → W p l e rmX10_climb s m args below meth c H locs 0 0 Q (F0 m 22 ls [.int w0_22, .ref (a 0)]) := by
    intro w0_22 H locs ls h hI hl
    rw [hj22] at h
    refine g_callVi (E' := mE a cI cZ ((f_X10_asked σ w0_22).2)) (k0 := 0) (As := [.int w0_22]) (rest := []) F hI (c_X10_asked l D a cI cZ F.2.2 σ w0_22) kb_X10_asked ki_X10_asked ks_X10_asked km_X10_103 ⟨Nat.le_of_ble_eq_true rfl, Nat.le_of_ble_eq_true rfl, rfl, rfl⟩ (by decide) mE_0 rfl hl.1 rfl (Nat.le_of_ble_eq_true rfl) ⟨Nat.zero_le _, Nat.zero_le _⟩ dX10_climb_22 (fun H locs hI => ?_)
    refine lv_if_ne (tgt := 30) hx hb dX10_climb_25 (by decide) (fun c_25 => ?_) (fun c_25 => ?_)
    · have h := (if_neg c_25).symm.trans h
      refine lv_aload_n hx hb dX10_climb_30 rfl (lv_at hl 0 rfl) ?_
      refine lv_iload_n hx hb dX10_climb_31 rfl (lv_at hl 1 rfl) ?_
      refine lv_iload_n hx hb dX10_climb_32 rfl (lv_at hl 2 rfl) ?_
      obtain ⟨q_33, e_33, h⟩ := gBind_in h
      refine g_callVi (E' := mE a cI cZ q_33.2) (k0 := 0) (As := [.int x1, .int x2]) (rest := []) F hI (c_X10_costOf l D a cI cZ F.2.2 N ((f_X10_asked σ w0_22).2) x1 x2 q_33 e_33) kb_X10_costOf ki_X10_costOf ks_X10_costOf km_X10_143 ⟨Nat.le_of_ble_eq_true rfl, Nat.le_of_ble_eq_true rfl, rfl, rfl⟩ (by decide) mE_0 rfl hl.1 rfl (Nat.le_of_ble_eq_true rfl) ⟨Nat.zero_le _, Nat.zero_le _⟩ dX10_climb_33 (fun H locs hI => ?_)
      refine lv_iconst (v := -1) hx hb dX10_climb_36 (by decide) ?_
      refine lv_icmp_ne (tgt := 44) hx hb dX10_climb_37 (by decide) (fun c_37 => ?_) (fun c_37 => ?_)
      · have h := (if_neg c_37).symm.trans h
        refine lv_aload_n hx hb dX10_climb_44 rfl (lv_at hl 0 rfl) ?_
        refine g_get F hI (by decide) mE_0 rfl ku_X10 20 (by decide) kf_X10_56 rfl dX10_climb_45 ?_
        refine lv_aload_n hx hb dX10_climb_48 rfl (lv_at hl 0 rfl) ?_
        refine g_get F hI (by decide) mE_0 rfl ku_X10 4 (by decide) kf_X10_16 rfl dX10_climb_49 ?_
        refine lv_iload_n hx hb dX10_climb_52 rfl (lv_at hl 2 rfl) ?_
        obtain ⟨g_53, h⟩ := g_guard h
        refine g_iald F hI (by decide) mE_a2 0 rfl g_53 dX10_climb_53 ?_
        obtain ⟨g_54, h⟩ := g_guard h
        refine g_iald F hI (by decide) mE_a15 0 rfl g_54 dX10_climb_54 ?_
        have h := Option.some.inj h
        subst h
        exact hq _ _ _ _ hI dX10_climb_55
      · have h := (if_pos c_37).symm.trans h
        refine lv_iconst (v := -1) hx hb dX10_climb_40 (by decide) ?_
        refine lv_goto (tgt := 55) hx hb dX10_climb_41 (by decide) ?_
        have h := Option.some.inj h
        subst h
        exact hq _ _ _ _ hI dX10_climb_55
    · have h := (if_pos c_25).symm.trans h
      refine lv_iconst (v := 0) hx hb dX10_climb_28 (by decide) ?_
      have h := Option.some.inj h
      subst h
      exact hq _ _ _ _ hI dX10_climb_29
  obtain ⟨j21, hj21, h⟩ := gJoin0_in h
  have J21 : ∀ (H : Heap) (locs : List Loc) (ls : Array Slot), j21  = some out → g_S 21 D a (mE a cI cZ σ) s.heap H locs → lv_has ls 3 [(0, .ref (a 0)), (1, .int x1), (2, .int x2)] → W p l e rmX10_climb s m args below meth c H locs 0 0 Q (F0 m 21 ls [.ref (a 0)]) := by
    intro  H locs ls h hI hl
    rw [hj21] at h
    refine lv_iconst (v := 0) hx hb dX10_climb_21 (by decide) ?_
    exact J22 _ _ _ _ h hI (lv_sub hl [0, 1, 2] rfl)
  refine lv_if_eq (tgt := 21) hx hb dX10_climb_6 (by decide) (fun c_6 => ?_) (fun c_6 => ?_)
  · have h := (if_pos c_6).symm.trans h
    exact J21 _ _ _ h hI (lv_sub hl [0, 1, 2] rfl)
  · have h := (if_neg c_6).symm.trans h
    refine lv_aload_n hx hb dX10_climb_9 rfl (lv_at hl 0 rfl) ?_
    refine lv_iload_n hx hb dX10_climb_10 rfl (lv_at hl 2 rfl) ?_
    refine g_callVi (E' := mE a cI cZ σ) (k0 := 0) (As := [.int x2]) (rest := [.ref (a 0)]) F hI (c_X10_isControl l D a cI cZ F.2.2 σ x2) kb_X10_isControl ki_X10_isControl ks_X10_isControl km_X10_140 ⟨Nat.le_of_ble_eq_true rfl, Nat.le_of_ble_eq_true rfl, rfl, rfl⟩ (by decide) mE_0 rfl hl.1 rfl (Nat.le_of_ble_eq_true rfl) ⟨Nat.zero_le _, Nat.zero_le _⟩ dX10_climb_11 (fun H locs hI => ?_)
    refine lv_if_eq (tgt := 21) hx hb dX10_climb_14 (by decide) (fun c_14 => ?_) (fun c_14 => ?_)
    · have h := (if_pos c_14).symm.trans h
      exact J21 _ _ _ h hI (lv_sub hl [0, 1, 2] rfl)
    · have h := (if_neg c_14).symm.trans h
      refine lv_iconst (v := 1) hx hb dX10_climb_17 (by decide) ?_
      refine lv_goto (tgt := 22) hx hb dX10_climb_18 (by decide) ?_
      exact J22 _ _ _ _ h hI (lv_sub hl [0, 1, 2] rfl)
/-- SpurlineModel.tempts(II)Z -/
def f_X10_tempts (N : Nat) (σ : gSt) (x1 x2 : Int32) : Option (Int32 × gSt) :=
  gJoin1 (fun (w0_22 : Int32) =>
      if (f_X10_asked σ w0_22).1 = 0 then
        some (0, (f_X10_asked σ w0_22).2)
      else
        if x1 = x2 then
          some (0, (f_X10_asked σ w0_22).2)
        else
          (f_X10_costOf N ((f_X10_asked σ w0_22).2) x1 x2).bind (fun (q_38 : Int32 × gSt) =>
          if x1 < 0 ∨ 12 ≤ x1.toNatClampNeg then none else
          (f_X10_finds N q_38.2 (g_ga q_38.2 2 x1) 1).bind (fun (s_50 : gSt) =>
          if q_38.1 = (-1) then
            some (1, s_50)
          else
            if x2 < 0 ∨ 12 ≤ x2.toNatClampNeg then none else
            if g_ga s_50 2 x2 < 0 ∨ 144 ≤ (g_ga s_50 2 x2).toNatClampNeg then none else
            if q_38.1 ≤ g_ga s_50 14 (g_ga s_50 2 x2) then
              some (0, s_50)
            else
              some (1, s_50)))) (fun j22 =>
  gJoin0 (
      j22 0) (fun j21 =>
    if f_X10_isControl σ x1 = 0 then
      j21
    else
      if f_X10_isControl σ x2 = 0 then
        j21
      else
        j22 1))
abbrev rmX10_tempts : Room := { frames := 4, cells := 0, slots := 0, locals := 93 }
theorem kb_X10_tempts : g_CB yX10_tempts cX10_tempts 4 (some .boolean) 2 := ⟨kc_X10_tempts, kn_X10, by decide +kernel⟩
set_option maxRecDepth 100000 in
set_option maxHeartbeats 4000000 in
theorem c_X10_tempts (l : Launch) (D : va_G) (a : Nat → Nat) (cI cZ : ClassId) (hj : g_Inj 21 a) (N : Nat) (σ : gSt) (x1 x2 : Int32) (out : Int32 × gSt) (hh : f_X10_tempts N σ x1 x2 = some out) : Met l yX10_tempts (Cond.code yX10_tempts cX10_tempts 4 (some .boolean) :: gW) rmX10_tempts (g_Pc 21 D a (mE a cI cZ σ) [(cI, .int), (cZ, .boolean)] [.ref (a 0), .int x1, .int x2]) (g_Qi 21 D a (mE a cI cZ out.2) out.1) 0 0 (g_Own 21 a) := by
  refine g_metz (by decide) hj (Nat.le_of_ble_eq_true rfl) ?_
  intro p e s m args below meth c Q ls F hl hI hq
  have hx := F.1.1
  have hb := F.1.2.1
  have hl : lv_has ls 4 [(0, .ref (a 0)), (1, .int x1), (2, .int x2)] := hl
  have h := hh
  unfold f_X10_tempts at h
  refine lv_aload_n hx hb dX10_tempts_0 rfl (lv_at hl 0 rfl) ?_
  refine lv_aload_n hx hb dX10_tempts_1 rfl (lv_at hl 0 rfl) ?_
  refine lv_iload_n hx hb dX10_tempts_2 rfl (lv_at hl 1 rfl) ?_
  refine g_callVi (E' := mE a cI cZ σ) (k0 := 0) (As := [.int x1]) (rest := [.ref (a 0)]) F hI (c_X10_isControl l D a cI cZ F.2.2 σ x1) kb_X10_isControl ki_X10_isControl ks_X10_isControl km_X10_140 ⟨Nat.le_of_ble_eq_true rfl, Nat.le_of_ble_eq_true rfl, rfl, rfl⟩ (by decide) mE_0 rfl hl.1 rfl (Nat.le_of_ble_eq_true rfl) ⟨Nat.zero_le _, Nat.zero_le _⟩ dX10_tempts_3 (fun H locs hI => ?_)
  obtain ⟨j22, hj22, h⟩ := gJoin1_in h
  have J22 : ∀ (w0_22 : Int32) (H : Heap) (locs : List Loc) (ls : Array Slot), j22 w0_22 = some out → g_S 21 D a (mE a cI cZ σ) s.heap H locs → lv_has ls 4 [(0, .ref (a 0)), (1, .int x1), (2, .int x2)] → W p l e rmX10_tempts s m args below meth c H locs 0 0 Q (F0 m 22 ls [.int w0_22, .ref (a 0)]) := by
    intro w0_22 H locs ls h hI hl
    rw [hj22] at h
    refine g_callVi (E' := mE a cI cZ ((f_X10_asked σ w0_22).2)) (k0 := 0) (As := [.int w0_22]) (rest := []) F hI (c_X10_asked l D a cI cZ F.2.2 σ w0_22) kb_X10_asked ki_X10_asked ks_X10_asked km_X10_103 ⟨Nat.le_of_ble_eq_true rfl, Nat.le_of_ble_eq_true rfl, rfl, rfl⟩ (by decide) mE_0 rfl hl.1 rfl (Nat.le_of_ble_eq_true rfl) ⟨Nat.zero_le _, Nat.zero_le _⟩ dX10_tempts_22 (fun H locs hI => ?_)
    refine lv_if_eq (tgt := 33) hx hb dX10_tempts_25 (by decide) (fun c_25 => ?_) (fun c_25 => ?_)
    · have h := (if_pos c_25).symm.trans h
      refine lv_iconst (v := 0) hx hb dX10_tempts_33 (by decide) ?_
      have h := Option.some.inj h
      subst h
      exact hq _ _ _ _ _ (show (0 : Int32) &&& 1 = 0 from by decide) hI dX10_tempts_34
    · have h := (if_neg c_25).symm.trans h
      refine lv_iload_n hx hb dX10_tempts_28 rfl (lv_at hl 1 rfl) ?_
      refine lv_iload_n hx hb dX10_tempts_29 rfl (lv_at hl 2 rfl) ?_
      refine lv_icmp_ne (tgt := 35) hx hb dX10_tempts_30 (by decide) (fun c_30 => ?_) (fun c_30 => ?_)
      · have h := (if_neg c_30).symm.trans h
        refine lv_aload_n hx hb dX10_tempts_35 rfl (lv_at hl 0 rfl) ?_
        refine lv_iload_n hx hb dX10_tempts_36 rfl (lv_at hl 1 rfl) ?_
        refine lv_iload_n hx hb dX10_tempts_37 rfl (lv_at hl 2 rfl) ?_
        obtain ⟨q_38, e_38, h⟩ := gBind_in h
        refine g_callVi (E' := mE a cI cZ q_38.2) (k0 := 0) (As := [.int x1, .int x2]) (rest := []) F hI (c_X10_costOf l D a cI cZ F.2.2 N ((f_X10_asked σ w0_22).2) x1 x2 q_38 e_38) kb_X10_costOf ki_X10_costOf ks_X10_costOf km_X10_143 ⟨Nat.le_of_ble_eq_true rfl, Nat.le_of_ble_eq_true rfl, rfl, rfl⟩ (by decide) mE_0 rfl hl.1 rfl (Nat.le_of_ble_eq_true rfl) ⟨Nat.zero_le _, Nat.zero_le _⟩ dX10_tempts_38 (fun H locs hI => ?_)
        refine lv_istore_n (lv' := [(3, .int q_38.1), (0, .ref (a 0)), (1, .int x1), (2, .int x2)]) hx hb dX10_tempts_41 rfl hl (by decide) rfl (fun ls hl => ?_)
        refine lv_aload_n hx hb dX10_tempts_42 rfl (lv_at hl 1 rfl) ?_
        refine lv_aload_n hx hb dX10_tempts_43 rfl (lv_at hl 1 rfl) ?_
        refine g_get F hI (by decide) mE_0 rfl ku_X10 4 (by decide) kf_X10_16 rfl dX10_tempts_44 ?_
        refine lv_iload_n hx hb dX10_tempts_47 rfl (lv_at hl 2 rfl) ?_
        obtain ⟨g_48, h⟩ := g_guard h
        refine g_iald F hI (by decide) mE_a2 0 rfl g_48 dX10_tempts_48 ?_
        refine lv_iconst (v := 1) hx hb dX10_tempts_49 (by decide) ?_
        obtain ⟨s_50, e_50, h⟩ := gBind_in h
        refine g_callVv (E' := mE a cI cZ s_50) (k0 := 0) (As := [.int (g_ga q_38.2 2 x1), .int 1]) (rest := []) F hI (c_X10_finds l D a cI cZ F.2.2 N q_38.2 (g_ga q_38.2 2 x1) 1 s_50 e_50) kb_X10_finds ki_X10_finds ks_X10_finds km_X10_136 ⟨Nat.le_of_ble_eq_true rfl, Nat.le_of_ble_eq_true rfl, rfl, rfl⟩ (by decide) mE_0 rfl hl.1 rfl (Nat.le_of_ble_eq_true rfl) ⟨Nat.zero_le _, Nat.zero_le _⟩ dX10_tempts_50 (fun H locs hI => ?_)
        refine lv_iload_n hx hb dX10_tempts_53 rfl (lv_at hl 0 rfl) ?_
        refine lv_iconst (v := -1) hx hb dX10_tempts_54 (by decide) ?_
        refine lv_icmp_eq (tgt := 73) hx hb dX10_tempts_55 (by decide) (fun c_55 => ?_) (fun c_55 => ?_)
        · have h := (if_pos c_55).symm.trans h
          refine lv_iconst (v := 1) hx hb dX10_tempts_73 (by decide) ?_
          refine lv_goto (tgt := 78) hx hb dX10_tempts_74 (by decide) ?_
          have h := Option.some.inj h
          subst h
          exact hq _ _ _ _ _ (show (1 : Int32) &&& 1 = 1 from by decide) hI dX10_tempts_78
        · have h := (if_neg c_55).symm.trans h
          refine lv_aload_n hx hb dX10_tempts_58 rfl (lv_at hl 1 rfl) ?_
          refine g_get F hI (by decide) mE_0 rfl ku_X10 19 (by decide) kf_X10_53 rfl dX10_tempts_59 ?_
          refine lv_aload_n hx hb dX10_tempts_62 rfl (lv_at hl 1 rfl) ?_
          refine g_get F hI (by decide) mE_0 rfl ku_X10 4 (by decide) kf_X10_16 rfl dX10_tempts_63 ?_
          refine lv_iload_n hx hb dX10_tempts_66 rfl (lv_at hl 3 rfl) ?_
          obtain ⟨g_67, h⟩ := g_guard h
          refine g_iald F hI (by decide) mE_a2 0 rfl g_67 dX10_tempts_67 ?_
          obtain ⟨g_68, h⟩ := g_guard h
          refine g_iald F hI (by decide) mE_a14 0 rfl g_68 dX10_tempts_68 ?_
          refine lv_iload_n hx hb dX10_tempts_69 rfl (lv_at hl 0 rfl) ?_
          refine lv_icmp_ge (tgt := 77) hx hb dX10_tempts_70 (by decide) (fun c_70 => ?_) (fun c_70 => ?_)
          · have h := (if_pos c_70).symm.trans h
            refine lv_iconst (v := 0) hx hb dX10_tempts_77 (by decide) ?_
            have h := Option.some.inj h
            subst h
            exact hq _ _ _ _ _ (show (0 : Int32) &&& 1 = 0 from by decide) hI dX10_tempts_78
          · have h := (if_neg c_70).symm.trans h
            refine lv_iconst (v := 1) hx hb dX10_tempts_73 (by decide) ?_
            refine lv_goto (tgt := 78) hx hb dX10_tempts_74 (by decide) ?_
            have h := Option.some.inj h
            subst h
            exact hq _ _ _ _ _ (show (1 : Int32) &&& 1 = 1 from by decide) hI dX10_tempts_78
      · have h := (if_pos c_30).symm.trans h
        refine lv_iconst (v := 0) hx hb dX10_tempts_33 (by decide) ?_
        have h := Option.some.inj h
        subst h
        exact hq _ _ _ _ _ (show (0 : Int32) &&& 1 = 0 from by decide) hI dX10_tempts_34
  obtain ⟨j21, hj21, h⟩ := gJoin0_in h
  have J21 : ∀ (H : Heap) (locs : List Loc) (ls : Array Slot), j21  = some out → g_S 21 D a (mE a cI cZ σ) s.heap H locs → lv_has ls 4 [(0, .ref (a 0)), (1, .int x1), (2, .int x2)] → W p l e rmX10_tempts s m args below meth c H locs 0 0 Q (F0 m 21 ls [.ref (a 0)]) := by
    intro  H locs ls h hI hl
    rw [hj21] at h
    refine lv_iconst (v := 0) hx hb dX10_tempts_21 (by decide) ?_
    exact J22 _ _ _ _ h hI (lv_sub hl [0, 1, 2] rfl)
  refine lv_if_eq (tgt := 21) hx hb dX10_tempts_6 (by decide) (fun c_6 => ?_) (fun c_6 => ?_)
  · have h := (if_pos c_6).symm.trans h
    exact J21 _ _ _ h hI (lv_sub hl [0, 1, 2] rfl)
  · have h := (if_neg c_6).symm.trans h
    refine lv_aload_n hx hb dX10_tempts_9 rfl (lv_at hl 0 rfl) ?_
    refine lv_iload_n hx hb dX10_tempts_10 rfl (lv_at hl 2 rfl) ?_
    refine g_callVi (E' := mE a cI cZ σ) (k0 := 0) (As := [.int x2]) (rest := [.ref (a 0)]) F hI (c_X10_isControl l D a cI cZ F.2.2 σ x2) kb_X10_isControl ki_X10_isControl ks_X10_isControl km_X10_140 ⟨Nat.le_of_ble_eq_true rfl, Nat.le_of_ble_eq_true rfl, rfl, rfl⟩ (by decide) mE_0 rfl hl.1 rfl (Nat.le_of_ble_eq_true rfl) ⟨Nat.zero_le _, Nat.zero_le _⟩ dX10_tempts_11 (fun H locs hI => ?_)
    refine lv_if_eq (tgt := 21) hx hb dX10_tempts_14 (by decide) (fun c_14 => ?_) (fun c_14 => ?_)
    · have h := (if_pos c_14).symm.trans h
      exact J21 _ _ _ h hI (lv_sub hl [0, 1, 2] rfl)
    · have h := (if_neg c_14).symm.trans h
      refine lv_iconst (v := 1) hx hb dX10_tempts_17 (by decide) ?_
      refine lv_goto (tgt := 22) hx hb dX10_tempts_18 (by decide) ?_
      exact J22 _ _ _ _ h hI (lv_sub hl [0, 1, 2] rfl)
/-- SpurlineModel.visit(II)I -/
def f_X10_visit (N : Nat) (σ : gSt) (x1 x2 : Int32) : Option (Int32 × gSt) :=
  gJoin1 (fun (w0_20 : Int32) =>
      gJoin1 (fun (w0_48 : Int32) =>
          gLoop2 (fun self53 (v4_53 : Int32) (v5_53 : Int32) =>
            gJoin0 (
                if (f_X10_asked_ σ w0_20 v4_53).1 = 0 then
                  some (0, (f_X10_asked_ σ w0_20 v4_53).2)
                else
                  if x1 < 0 ∨ 5 ≤ x1.toNatClampNeg then none else
                  if (6 * x1) + (g_ga ((f_X10_asked_ σ w0_20 v4_53).2) 5 x1) < 0 ∨ 30 ≤ ((6 * x1) + (g_ga ((f_X10_asked_ σ w0_20 v4_53).2) 5 x1)).toNatClampNeg then none else
                  if x1 < 0 ∨ 5 ≤ x1.toNatClampNeg then none else
                  if x1 < 0 ∨ 5 ≤ x1.toNatClampNeg then none else
                  if x1 < 0 ∨ 5 ≤ x1.toNatClampNeg then none else
                  some (g_ga (g_pa (g_pa ((f_X10_asked_ σ w0_20 v4_53).2) 4 ((6 * x1) + (g_ga ((f_X10_asked_ σ w0_20 v4_53).2) 5 x1)) x2) 5 x1 ((g_ga (g_pa ((f_X10_asked_ σ w0_20 v4_53).2) 4 ((6 * x1) + (g_ga ((f_X10_asked_ σ w0_20 v4_53).2) 5 x1)) x2) 5 x1) + 1)) 5 x1, g_pa (g_pa ((f_X10_asked_ σ w0_20 v4_53).2) 4 ((6 * x1) + (g_ga ((f_X10_asked_ σ w0_20 v4_53).2) 5 x1)) x2) 5 x1 ((g_ga (g_pa ((f_X10_asked_ σ w0_20 v4_53).2) 4 ((6 * x1) + (g_ga ((f_X10_asked_ σ w0_20 v4_53).2) 5 x1)) x2) 5 x1) + 1))) (fun j98 =>
              if v4_53 = 0 then
                j98
              else
                if x1 < 0 ∨ 5 ≤ x1.toNatClampNeg then none else
                if g_ga σ 5 x1 ≤ v5_53 then
                  j98
                else
                  if (6 * x1) + v5_53 < 0 ∨ 30 ≤ ((6 * x1) + v5_53).toNatClampNeg then none else
                  gJoin1 (fun (w0_90 : Int32) =>
                      self53 w0_90 (v5_53 + 1)) (fun j90 =>
                    if g_ga σ 4 ((6 * x1) + v5_53) = x2 then
                      j90 0
                    else
                      j90 1))) N w0_48 0) (fun j48 =>
      gJoin0 (
          j48 0) (fun j47 =>
        if w0_20 = 0 then
          j47
        else
          if x1 < 0 ∨ 5 ≤ x1.toNatClampNeg then none else
          if 6 ≤ g_ga σ 5 x1 then
            j47
          else
            if σ.2 4 = 0 then
              j48 1
            else
              j47))) (fun j20 =>
  gJoin0 (
      j20 0) (fun j19 =>
    if f_X10_isClass x1 = 0 then
      j19
    else
      if f_X10_isControl σ x2 = 0 then
        j19
      else
        j20 1))
abbrev rmX10_visit : Room := { frames := 2, cells := 0, slots := 0, locals := 43 }
theorem kb_X10_visit : g_CB yX10_visit cX10_visit 6 (some .int) 2 := ⟨kc_X10_visit, kn_X10, by decide +kernel⟩
set_option maxRecDepth 100000 in
set_option maxHeartbeats 4000000 in
theorem c_X10_visit (l : Launch) (D : va_G) (a : Nat → Nat) (cI cZ : ClassId) (hj : g_Inj 21 a) (N : Nat) (σ : gSt) (x1 x2 : Int32) (out : Int32 × gSt) (hh : f_X10_visit N σ x1 x2 = some out) : Met l yX10_visit (Cond.code yX10_visit cX10_visit 6 (some .int) :: gW) rmX10_visit (g_Pc 21 D a (mE a cI cZ σ) [(cI, .int), (cZ, .boolean)] [.ref (a 0), .int x1, .int x2]) (g_Qi 21 D a (mE a cI cZ out.2) out.1) 0 0 (g_Own 21 a) := by
  refine g_meti (by decide) hj (Nat.le_of_ble_eq_true rfl) ?_
  intro p e s m args below meth c Q ls F hl hI hq
  have hx := F.1.1
  have hb := F.1.2.1
  have hl : lv_has ls 6 [(0, .ref (a 0)), (1, .int x1), (2, .int x2)] := hl
  have h := hh
  unfold f_X10_visit at h
  refine lv_iload_n hx hb dX10_visit_0 rfl (lv_at hl 1 rfl) ?_
  refine g_callSi (E' := mE a cI cZ σ) (As := [.int x1]) (rest := []) F hI (c_X10_isClass l D a cI cZ F.2.2 σ x1) kb_X10_isClass kt_X10_isClass km_X10_148 ⟨Nat.le_of_ble_eq_true rfl, Nat.le_of_ble_eq_true rfl, rfl, rfl⟩ hl.1 rfl (Nat.le_of_ble_eq_true rfl) ⟨Nat.zero_le _, Nat.zero_le _⟩ dX10_visit_1 (fun H locs hI => ?_)
  obtain ⟨j20, hj20, h⟩ := gJoin1_in h
  have J20 : ∀ (w0_20 : Int32) (H : Heap) (locs : List Loc) (ls : Array Slot), j20 w0_20 = some out → g_S 21 D a (mE a cI cZ σ) s.heap H locs → lv_has ls 6 [(0, .ref (a 0)), (1, .int x1), (2, .int x2)] → W p l e rmX10_visit s m args below meth c H locs 0 0 Q (F0 m 20 ls [.int w0_20]) := by
    intro w0_20 H locs ls h hI hl
    rw [hj20] at h
    refine lv_istore_n (lv' := [(3, .int w0_20), (0, .ref (a 0)), (1, .int x1), (2, .int x2)]) hx hb dX10_visit_20 rfl hl (by decide) rfl (fun ls hl => ?_)
    refine lv_iload_n hx hb dX10_visit_21 rfl (lv_at hl 0 rfl) ?_
    obtain ⟨j48, hj48, h⟩ := gJoin1_in h
    have J48 : ∀ (w0_48 : Int32) (H : Heap) (locs : List Loc) (ls : Array Slot), j48 w0_48 = some out → g_S 21 D a (mE a cI cZ σ) s.heap H locs → lv_has ls 6 [(0, .ref (a 0)), (1, .int x1), (2, .int x2), (3, .int w0_20)] → W p l e rmX10_visit s m args below meth c H locs 0 0 Q (F0 m 48 ls [.int w0_48]) := by
      intro w0_48 H locs ls h hI hl
      rw [hj48] at h
      refine lv_istore (lv' := [(4, .int w0_48), (0, .ref (a 0)), (1, .int x1), (2, .int x2), (3, .int w0_20)]) hx hb dX10_visit_48 hl (by decide) rfl (fun ls hl => ?_)
      refine lv_iconst (v := 0) hx hb dX10_visit_50 (by decide) ?_
      refine lv_istore (lv' := [(5, .int 0), (4, .int w0_48), (0, .ref (a 0)), (1, .int x1), (2, .int x2), (3, .int w0_20)]) hx hb dX10_visit_51 hl (by decide) rfl (fun ls hl => ?_)
      obtain ⟨lp53, hz53, hs53, h⟩ := gLoop2_in h
      have L53 : ∀ (n : Nat) (v4_53 : Int32) (v5_53 : Int32) (H : Heap) (locs : List Loc) (ls : Array Slot), lp53 n v4_53 v5_53 = some out → g_S 21 D a (mE a cI cZ σ) s.heap H locs → lv_has ls 6 [(0, .ref (a 0)), (1, .int x1), (2, .int x2), (3, .int w0_20), (4, .int v4_53), (5, .int v5_53)] → W p l e rmX10_visit s m args below meth c H locs 0 0 Q (F0 m 53 ls []) := by
        intro n
        induction n with
        | zero => intro v4_53 v5_53 H locs ls h; rw [hz53] at h; cases h
        | succ n ih53 =>
          intro v4_53 v5_53 H locs ls h hI hl
          rw [hs53] at h
          refine lv_iload hx hb dX10_visit_53 (lv_at hl 4 rfl) ?_
          obtain ⟨j98, hj98, h⟩ := gJoin0_in h
          have J98 : ∀ (H : Heap) (locs : List Loc) (ls : Array Slot), j98  = some out → g_S 21 D a (mE a cI cZ σ) s.heap H locs → lv_has ls 6 [(0, .ref (a 0)), (1, .int x1), (2, .int x2), (3, .int w0_20), (4, .int v4_53)] → W p l e rmX10_visit s m args below meth c H locs 0 0 Q (F0 m 98 ls []) := by
            intro  H locs ls h hI hl
            rw [hj98] at h
            refine lv_aload_n hx hb dX10_visit_98 rfl (lv_at hl 0 rfl) ?_
            refine lv_iload_n hx hb dX10_visit_99 rfl (lv_at hl 3 rfl) ?_
            refine lv_iload hx hb dX10_visit_100 (lv_at hl 4 rfl) ?_
            refine g_callVi (E' := mE a cI cZ ((f_X10_asked_ σ w0_20 v4_53).2)) (k0 := 0) (As := [.int w0_20, .int v4_53]) (rest := []) F hI (c_X10_asked_ l D a cI cZ F.2.2 σ w0_20 v4_53) kb_X10_asked_ ki_X10_asked_ ks_X10_asked_ km_X10_95 ⟨Nat.le_of_ble_eq_true rfl, Nat.le_of_ble_eq_true rfl, rfl, rfl⟩ (by decide) mE_0 rfl hl.1 rfl (Nat.le_of_ble_eq_true rfl) ⟨Nat.zero_le _, Nat.zero_le _⟩ dX10_visit_102 (fun H locs hI => ?_)
            refine lv_if_ne (tgt := 110) hx hb dX10_visit_105 (by decide) (fun c_105 => ?_) (fun c_105 => ?_)
            · have h := (if_neg c_105).symm.trans h
              refine lv_aload_n hx hb dX10_visit_110 rfl (lv_at hl 0 rfl) ?_
              refine g_get F hI (by decide) mE_0 rfl ku_X10 7 (by decide) kf_X10_23 rfl dX10_visit_111 ?_
              refine lv_bipush (v := 6) hx hb dX10_visit_114 (by decide) ?_
              refine lv_iload_n hx hb dX10_visit_116 rfl (lv_at hl 1 rfl) ?_
              refine lv_imul hx hb dX10_visit_117 ?_
              refine lv_aload_n hx hb dX10_visit_118 rfl (lv_at hl 0 rfl) ?_
              refine g_get F hI (by decide) mE_0 rfl ku_X10 8 (by decide) kf_X10_26 rfl dX10_visit_119 ?_
              refine lv_iload_n hx hb dX10_visit_122 rfl (lv_at hl 1 rfl) ?_
              obtain ⟨g_123, h⟩ := g_guard h
              refine g_iald F hI (by decide) mE_a5 0 rfl g_123 dX10_visit_123 ?_
              refine lv_iadd hx hb dX10_visit_124 ?_
              refine lv_iload_n hx hb dX10_visit_125 rfl (lv_at hl 2 rfl) ?_
              obtain ⟨g_126, h⟩ := g_guard h
              refine g_iast (E' := mE a cI cZ (g_pa ((f_X10_asked_ σ w0_20 v4_53).2) 4 ((6 * x1) + (g_ga ((f_X10_asked_ σ w0_20 v4_53).2) 5 x1)) x2)) F hI (by decide) mE_a4 0 rfl g_126 rfl mE_sa dX10_visit_126 (fun H locs hI => ?_)
              refine lv_aload_n hx hb dX10_visit_127 rfl (lv_at hl 0 rfl) ?_
              refine g_get F hI (by decide) mE_0 rfl ku_X10 8 (by decide) kf_X10_26 rfl dX10_visit_128 ?_
              refine lv_iload_n hx hb dX10_visit_131 rfl (lv_at hl 1 rfl) ?_
              refine lv_dup2_11 hx hb dX10_visit_132 rfl rfl ?_
              obtain ⟨g_133, h⟩ := g_guard h
              refine g_iald F hI (by decide) mE_a5 0 rfl g_133 dX10_visit_133 ?_
              refine lv_iconst (v := 1) hx hb dX10_visit_134 (by decide) ?_
              refine lv_iadd hx hb dX10_visit_135 ?_
              obtain ⟨g_136, h⟩ := g_guard h
              refine g_iast (E' := mE a cI cZ (g_pa (g_pa ((f_X10_asked_ σ w0_20 v4_53).2) 4 ((6 * x1) + (g_ga ((f_X10_asked_ σ w0_20 v4_53).2) 5 x1)) x2) 5 x1 ((g_ga (g_pa ((f_X10_asked_ σ w0_20 v4_53).2) 4 ((6 * x1) + (g_ga ((f_X10_asked_ σ w0_20 v4_53).2) 5 x1)) x2) 5 x1) + 1))) F hI (by decide) mE_a5 0 rfl g_136 rfl mE_sa dX10_visit_136 (fun H locs hI => ?_)
              refine lv_aload_n hx hb dX10_visit_137 rfl (lv_at hl 0 rfl) ?_
              refine g_get F hI (by decide) mE_0 rfl ku_X10 8 (by decide) kf_X10_26 rfl dX10_visit_138 ?_
              refine lv_iload_n hx hb dX10_visit_141 rfl (lv_at hl 1 rfl) ?_
              obtain ⟨g_142, h⟩ := g_guard h
              refine g_iald F hI (by decide) mE_a5 0 rfl g_142 dX10_visit_142 ?_
              have h := Option.some.inj h
              subst h
              exact hq _ _ _ _ hI dX10_visit_143
            · have h := (if_pos c_105).symm.trans h
              refine lv_iconst (v := 0) hx hb dX10_visit_108 (by decide) ?_
              have h := Option.some.inj h
              subst h
              exact hq _ _ _ _ hI dX10_visit_109
          refine lv_if_eq (tgt := 98) hx hb dX10_visit_55 (by decide) (fun c_55 => ?_) (fun c_55 => ?_)
          · have h := (if_pos c_55).symm.trans h
            exact J98 _ _ _ h hI (lv_sub hl [0, 1, 2, 3, 4] rfl)
          · have h := (if_neg c_55).symm.trans h
            refine lv_iload hx hb dX10_visit_58 (lv_at hl 5 rfl) ?_
            refine lv_aload_n hx hb dX10_visit_60 rfl (lv_at hl 0 rfl) ?_
            refine g_get F hI (by decide) mE_0 rfl ku_X10 8 (by decide) kf_X10_26 rfl dX10_visit_61 ?_
            refine lv_iload_n hx hb dX10_visit_64 rfl (lv_at hl 1 rfl) ?_
            obtain ⟨g_65, h⟩ := g_guard h
            refine g_iald F hI (by decide) mE_a5 0 rfl g_65 dX10_visit_65 ?_
            refine lv_icmp_ge (tgt := 98) hx hb dX10_visit_66 (by decide) (fun c_66 => ?_) (fun c_66 => ?_)
            · have h := (if_pos c_66).symm.trans h
              exact J98 _ _ _ h hI (lv_sub hl [0, 1, 2, 3, 4] rfl)
            · have h := (if_neg c_66).symm.trans h
              refine lv_aload_n hx hb dX10_visit_69 rfl (lv_at hl 0 rfl) ?_
              refine g_get F hI (by decide) mE_0 rfl ku_X10 7 (by decide) kf_X10_23 rfl dX10_visit_70 ?_
              refine lv_bipush (v := 6) hx hb dX10_visit_73 (by decide) ?_
              refine lv_iload_n hx hb dX10_visit_75 rfl (lv_at hl 1 rfl) ?_
              refine lv_imul hx hb dX10_visit_76 ?_
              refine lv_iload hx hb dX10_visit_77 (lv_at hl 5 rfl) ?_
              refine lv_iadd hx hb dX10_visit_79 ?_
              obtain ⟨g_80, h⟩ := g_guard h
              refine g_iald F hI (by decide) mE_a4 0 rfl g_80 dX10_visit_80 ?_
              refine lv_iload_n hx hb dX10_visit_81 rfl (lv_at hl 2 rfl) ?_
              obtain ⟨j90, hj90, h⟩ := gJoin1_in h
              have J90 : ∀ (w0_90 : Int32) (H : Heap) (locs : List Loc) (ls : Array Slot), j90 w0_90 = some out → g_S 21 D a (mE a cI cZ σ) s.heap H locs → lv_has ls 6 [(0, .ref (a 0)), (1, .int x1), (2, .int x2), (3, .int w0_20), (5, .int v5_53)] → W p l e rmX10_visit s m args below meth c H locs 0 0 Q (F0 m 90 ls [.int w0_90]) := by
                intro w0_90 H locs ls h hI hl
                rw [hj90] at h
                refine lv_istore (lv' := [(4, .int w0_90), (0, .ref (a 0)), (1, .int x1), (2, .int x2), (3, .int w0_20), (5, .int v5_53)]) hx hb dX10_visit_90 hl (by decide) rfl (fun ls hl => ?_)
                refine lv_iinc (v := v5_53 + 1) (lv' := [(5, .int (v5_53 + 1)), (4, .int w0_90), (0, .ref (a 0)), (1, .int x1), (2, .int x2), (3, .int w0_20)]) hx hb dX10_visit_92 hl (k := 5) rfl rfl (by decide) rfl (fun ls hl => ?_)
                refine lv_goto (tgt := 53) hx hb dX10_visit_95 (by decide) ?_
                exact ih53 _ _ _ _ _ h hI (lv_sub hl [2, 3, 4, 5, 1, 0] rfl)
              refine lv_icmp_eq (tgt := 89) hx hb dX10_visit_82 (by decide) (fun c_82 => ?_) (fun c_82 => ?_)
              · have h := (if_pos c_82).symm.trans h
                refine lv_iconst (v := 0) hx hb dX10_visit_89 (by decide) ?_
                exact J90 _ _ _ _ h hI (lv_sub hl [0, 1, 2, 3, 5] rfl)
              · have h := (if_neg c_82).symm.trans h
                refine lv_iconst (v := 1) hx hb dX10_visit_85 (by decide) ?_
                refine lv_goto (tgt := 90) hx hb dX10_visit_86 (by decide) ?_
                exact J90 _ _ _ _ h hI (lv_sub hl [0, 1, 2, 3, 5] rfl)
      exact L53 _ _ _ _ _ _ h hI (lv_sub hl [2, 3, 4, 5, 1, 0] rfl)
    obtain ⟨j47, hj47, h⟩ := gJoin0_in h
    have J47 : ∀ (H : Heap) (locs : List Loc) (ls : Array Slot), j47  = some out → g_S 21 D a (mE a cI cZ σ) s.heap H locs → lv_has ls 6 [(0, .ref (a 0)), (1, .int x1), (2, .int x2), (3, .int w0_20)] → W p l e rmX10_visit s m args below meth c H locs 0 0 Q (F0 m 47 ls []) := by
      intro  H locs ls h hI hl
      rw [hj47] at h
      refine lv_iconst (v := 0) hx hb dX10_visit_47 (by decide) ?_
      exact J48 _ _ _ _ h hI (lv_sub hl [0, 1, 2, 3] rfl)
    refine lv_if_eq (tgt := 47) hx hb dX10_visit_22 (by decide) (fun c_22 => ?_) (fun c_22 => ?_)
    · have h := (if_pos c_22).symm.trans h
      exact J47 _ _ _ h hI (lv_sub hl [1, 2, 3, 0] rfl)
    · have h := (if_neg c_22).symm.trans h
      refine lv_aload_n hx hb dX10_visit_25 rfl (lv_at hl 1 rfl) ?_
      refine g_get F hI (by decide) mE_0 rfl ku_X10 8 (by decide) kf_X10_26 rfl dX10_visit_26 ?_
      refine lv_iload_n hx hb dX10_visit_29 rfl (lv_at hl 2 rfl) ?_
      obtain ⟨g_30, h⟩ := g_guard h
      refine g_iald F hI (by decide) mE_a5 0 rfl g_30 dX10_visit_30 ?_
      refine lv_bipush (v := 6) hx hb dX10_visit_31 (by decide) ?_
      refine lv_icmp_ge (tgt := 47) hx hb dX10_visit_33 (by decide) (fun c_33 => ?_) (fun c_33 => ?_)
      · have h := (if_pos c_33).symm.trans h
        exact J47 _ _ _ h hI (lv_sub hl [1, 2, 3, 0] rfl)
      · have h := (if_neg c_33).symm.trans h
        refine lv_aload_n hx hb dX10_visit_36 rfl (lv_at hl 1 rfl) ?_
        refine g_get F hI (by decide) mE_0 rfl ku_X10 16 (by decide) kf_X10_151 rfl dX10_visit_37 ?_
        refine lv_if_ne (tgt := 47) hx hb dX10_visit_40 (by decide) (fun c_40 => ?_) (fun c_40 => ?_)
        · have h := (if_neg c_40).symm.trans h
          exact J47 _ _ _ h hI (lv_sub hl [1, 2, 3, 0] rfl)
        · have h := (if_pos c_40).symm.trans h
          refine lv_iconst (v := 1) hx hb dX10_visit_43 (by decide) ?_
          refine lv_goto (tgt := 48) hx hb dX10_visit_44 (by decide) ?_
          exact J48 _ _ _ _ h hI (lv_sub hl [1, 2, 3, 0] rfl)
  obtain ⟨j19, hj19, h⟩ := gJoin0_in h
  have J19 : ∀ (H : Heap) (locs : List Loc) (ls : Array Slot), j19  = some out → g_S 21 D a (mE a cI cZ σ) s.heap H locs → lv_has ls 6 [(0, .ref (a 0)), (1, .int x1), (2, .int x2)] → W p l e rmX10_visit s m args below meth c H locs 0 0 Q (F0 m 19 ls []) := by
    intro  H locs ls h hI hl
    rw [hj19] at h
    refine lv_iconst (v := 0) hx hb dX10_visit_19 (by decide) ?_
    exact J20 _ _ _ _ h hI (lv_sub hl [0, 1, 2] rfl)
  refine lv_if_eq (tgt := 19) hx hb dX10_visit_4 (by decide) (fun c_4 => ?_) (fun c_4 => ?_)
  · have h := (if_pos c_4).symm.trans h
    exact J19 _ _ _ h hI (lv_sub hl [0, 1, 2] rfl)
  · have h := (if_neg c_4).symm.trans h
    refine lv_aload_n hx hb dX10_visit_7 rfl (lv_at hl 0 rfl) ?_
    refine lv_iload_n hx hb dX10_visit_8 rfl (lv_at hl 2 rfl) ?_
    refine g_callVi (E' := mE a cI cZ σ) (k0 := 0) (As := [.int x2]) (rest := []) F hI (c_X10_isControl l D a cI cZ F.2.2 σ x2) kb_X10_isControl ki_X10_isControl ks_X10_isControl km_X10_140 ⟨Nat.le_of_ble_eq_true rfl, Nat.le_of_ble_eq_true rfl, rfl, rfl⟩ (by decide) mE_0 rfl hl.1 rfl (Nat.le_of_ble_eq_true rfl) ⟨Nat.zero_le _, Nat.zero_le _⟩ dX10_visit_9 (fun H locs hI => ?_)
    refine lv_if_eq (tgt := 19) hx hb dX10_visit_12 (by decide) (fun c_12 => ?_) (fun c_12 => ?_)
    · have h := (if_pos c_12).symm.trans h
      exact J19 _ _ _ h hI (lv_sub hl [0, 1, 2] rfl)
    · have h := (if_neg c_12).symm.trans h
      refine lv_iconst (v := 1) hx hb dX10_visit_15 (by decide) ?_
      refine lv_goto (tgt := 20) hx hb dX10_visit_16 (by decide) ?_
      exact J20 _ _ _ _ h hI (lv_sub hl [0, 1, 2] rfl)
/-- SpurlineModel.sumOf(IZ)I -/
def f_X10_sumOf (N : Nat) (σ : gSt) (x1 x2 : Int32) : Option (Int32 × gSt) :=
  gJoin1 (fun (w0_10 : Int32) =>
      gLoop3 (fun self14 (v3_14 : Int32) (v4_14 : Int32) (s_14 : gSt) =>
        if x1 ≤ v4_14 + 1 then
          some (v3_14, s_14)
        else
          if v3_14 = (-1) then
            some (v3_14, s_14)
          else
            if v4_14 < 0 ∨ 6 ≤ v4_14.toNatClampNeg then none else
            if v4_14 + 1 < 0 ∨ 6 ≤ (v4_14 + 1).toNatClampNeg then none else
            (f_X10_costOf N s_14 (g_ga s_14 18 v4_14) (g_ga s_14 18 (v4_14 + 1))).bind (fun (q_44 : Int32 × gSt) =>
            gJoin1 (fun (w0_89 : Int32) =>
                self14 w0_89 (v4_14 + 1) q_44.2) (fun j89 =>
              if q_44.1 = (-1) then
                j89 (-1)
              else
                gJoin1 (fun (w0_88 : Int32) =>
                    j89 (v3_14 + w0_88)) (fun j88 =>
                  if x2 = 0 then
                    j88 q_44.1
                  else
                    if v4_14 + 1 < 0 ∨ 6 ≤ (v4_14 + 1).toNatClampNeg then none else
                    if g_ga q_44.2 18 (v4_14 + 1) < 0 ∨ 12 ≤ (g_ga q_44.2 18 (v4_14 + 1)).toNatClampNeg then none else
                    if g_ga q_44.2 2 (g_ga q_44.2 18 (v4_14 + 1)) < 0 ∨ 144 ≤ (g_ga q_44.2 2 (g_ga q_44.2 18 (v4_14 + 1))).toNatClampNeg then none else
                    j88 (g_ga q_44.2 15 (g_ga q_44.2 2 (g_ga q_44.2 18 (v4_14 + 1)))))))) N w0_10 0 σ) (fun j10 =>
    if 2 ≤ x1 then
      j10 0
    else
      j10 (-1))
abbrev rmX10_sumOf : Room := { frames := 4, cells := 0, slots := 0, locals := 93 }
theorem kb_X10_sumOf : g_CB yX10_sumOf cX10_sumOf 6 (some .int) 2 := ⟨kc_X10_sumOf, kn_X10, by decide +kernel⟩
set_option maxRecDepth 100000 in
set_option maxHeartbeats 4000000 in
theorem c_X10_sumOf (l : Launch) (D : va_G) (a : Nat → Nat) (cI cZ : ClassId) (hj : g_Inj 21 a) (N : Nat) (σ : gSt) (x1 x2 : Int32) (out : Int32 × gSt) (hh : f_X10_sumOf N σ x1 x2 = some out) : Met l yX10_sumOf (Cond.code yX10_sumOf cX10_sumOf 6 (some .int) :: gW) rmX10_sumOf (g_Pc 21 D a (mE a cI cZ σ) [(cI, .int), (cZ, .boolean)] [.ref (a 0), .int x1, .int x2]) (g_Qi 21 D a (mE a cI cZ out.2) out.1) 0 0 (g_Own 21 a) := by
  refine g_meti (by decide) hj (Nat.le_of_ble_eq_true rfl) ?_
  intro p e s m args below meth c Q ls F hl hI hq
  have hx := F.1.1
  have hb := F.1.2.1
  have hl : lv_has ls 6 [(0, .ref (a 0)), (1, .int x1), (2, .int x2)] := hl
  have h := hh
  unfold f_X10_sumOf at h
  refine lv_iload_n hx hb dX10_sumOf_0 rfl (lv_at hl 1 rfl) ?_
  refine lv_iconst (v := 2) hx hb dX10_sumOf_1 (by decide) ?_
  obtain ⟨j10, hj10, h⟩ := gJoin1_in h
  have J10 : ∀ (w0_10 : Int32) (H : Heap) (locs : List Loc) (ls : Array Slot), j10 w0_10 = some out → g_S 21 D a (mE a cI cZ σ) s.heap H locs → lv_has ls 6 [(0, .ref (a 0)), (1, .int x1), (2, .int x2)] → W p l e rmX10_sumOf s m args below meth c H locs 0 0 Q (F0 m 10 ls [.int w0_10]) := by
    intro w0_10 H locs ls h hI hl
    rw [hj10] at h
    refine lv_istore_n (lv' := [(3, .int w0_10), (0, .ref (a 0)), (1, .int x1), (2, .int x2)]) hx hb dX10_sumOf_10 rfl hl (by decide) rfl (fun ls hl => ?_)
    refine lv_iconst (v := 0) hx hb dX10_sumOf_11 (by decide) ?_
    refine lv_istore (lv' := [(4, .int 0), (3, .int w0_10), (0, .ref (a 0)), (1, .int x1), (2, .int x2)]) hx hb dX10_sumOf_12 hl (by decide) rfl (fun ls hl => ?_)
    obtain ⟨lp14, hz14, hs14, h⟩ := gLoop3_in h
    have L14 : ∀ (n : Nat) (v3_14 : Int32) (v4_14 : Int32) (s_14 : gSt) (H : Heap) (locs : List Loc) (ls : Array Slot), lp14 n v3_14 v4_14 s_14 = some out → g_S 21 D a (mE a cI cZ s_14) s.heap H locs → lv_has ls 6 [(0, .ref (a 0)), (1, .int x1), (2, .int x2), (3, .int v3_14), (4, .int v4_14)] → W p l e rmX10_sumOf s m args below meth c H locs 0 0 Q (F0 m 14 ls []) := by
      intro n
      induction n with
      | zero => intro v3_14 v4_14 s_14 H locs ls h; rw [hz14] at h; cases h
      | succ n ih14 =>
        intro v3_14 v4_14 s_14 H locs ls h hI hl
        rw [hs14] at h
        refine lv_iload hx hb dX10_sumOf_14 (lv_at hl 4 rfl) ?_
        refine lv_iconst (v := 1) hx hb dX10_sumOf_16 (by decide) ?_
        refine lv_iadd hx hb dX10_sumOf_17 ?_
        refine lv_iload_n hx hb dX10_sumOf_18 rfl (lv_at hl 1 rfl) ?_
        refine lv_icmp_ge (tgt := 96) hx hb dX10_sumOf_19 (by decide) (fun c_19 => ?_) (fun c_19 => ?_)
        · have h := (if_pos c_19).symm.trans h
          refine lv_iload_n hx hb dX10_sumOf_96 rfl (lv_at hl 3 rfl) ?_
          have h := Option.some.inj h
          subst h
          exact hq _ _ _ _ hI dX10_sumOf_97
        · have h := (if_neg c_19).symm.trans h
          refine lv_iload_n hx hb dX10_sumOf_22 rfl (lv_at hl 3 rfl) ?_
          refine lv_iconst (v := -1) hx hb dX10_sumOf_23 (by decide) ?_
          refine lv_icmp_eq (tgt := 96) hx hb dX10_sumOf_24 (by decide) (fun c_24 => ?_) (fun c_24 => ?_)
          · have h := (if_pos c_24).symm.trans h
            refine lv_iload_n hx hb dX10_sumOf_96 rfl (lv_at hl 3 rfl) ?_
            have h := Option.some.inj h
            subst h
            exact hq _ _ _ _ hI dX10_sumOf_97
          · have h := (if_neg c_24).symm.trans h
            refine lv_aload_n hx hb dX10_sumOf_27 rfl (lv_at hl 0 rfl) ?_
            refine lv_aload_n hx hb dX10_sumOf_28 rfl (lv_at hl 0 rfl) ?_
            refine g_get F hI (by decide) mE_0 rfl ku_X10 24 (by decide) kf_X10_65 rfl dX10_sumOf_29 ?_
            refine lv_iload hx hb dX10_sumOf_32 (lv_at hl 4 rfl) ?_
            obtain ⟨g_34, h⟩ := g_guard h
            refine g_iald F hI (by decide) mE_a18 0 rfl g_34 dX10_sumOf_34 ?_
            refine lv_aload_n hx hb dX10_sumOf_35 rfl (lv_at hl 0 rfl) ?_
            refine g_get F hI (by decide) mE_0 rfl ku_X10 24 (by decide) kf_X10_65 rfl dX10_sumOf_36 ?_
            refine lv_iload hx hb dX10_sumOf_39 (lv_at hl 4 rfl) ?_
            refine lv_iconst (v := 1) hx hb dX10_sumOf_41 (by decide) ?_
            refine lv_iadd hx hb dX10_sumOf_42 ?_
            obtain ⟨g_43, h⟩ := g_guard h
            refine g_iald F hI (by decide) mE_a18 0 rfl g_43 dX10_sumOf_43 ?_
            obtain ⟨q_44, e_44, h⟩ := gBind_in h
            refine g_callVi (E' := mE a cI cZ q_44.2) (k0 := 0) (As := [.int (g_ga s_14 18 v4_14), .int (g_ga s_14 18 (v4_14 + 1))]) (rest := []) F hI (c_X10_costOf l D a cI cZ F.2.2 N s_14 (g_ga s_14 18 v4_14) (g_ga s_14 18 (v4_14 + 1)) q_44 e_44) kb_X10_costOf ki_X10_costOf ks_X10_costOf km_X10_143 ⟨Nat.le_of_ble_eq_true rfl, Nat.le_of_ble_eq_true rfl, rfl, rfl⟩ (by decide) mE_0 rfl hl.1 rfl (Nat.le_of_ble_eq_true rfl) ⟨Nat.zero_le _, Nat.zero_le _⟩ dX10_sumOf_44 (fun H locs hI => ?_)
            refine lv_istore (lv' := [(5, .int q_44.1), (0, .ref (a 0)), (1, .int x1), (2, .int x2), (3, .int v3_14), (4, .int v4_14)]) hx hb dX10_sumOf_47 hl (by decide) rfl (fun ls hl => ?_)
            refine lv_iload hx hb dX10_sumOf_49 (lv_at hl 0 rfl) ?_
            refine lv_iconst (v := -1) hx hb dX10_sumOf_51 (by decide) ?_
            obtain ⟨j89, hj89, h⟩ := gJoin1_in h
            have J89 : ∀ (w0_89 : Int32) (H : Heap) (locs : List Loc) (ls : Array Slot), j89 w0_89 = some out → g_S 21 D a (mE a cI cZ q_44.2) s.heap H locs → lv_has ls 6 [(0, .ref (a 0)), (1, .int x1), (2, .int x2), (4, .int v4_14)] → W p l e rmX10_sumOf s m args below meth c H locs 0 0 Q (F0 m 89 ls [.int w0_89]) := by
              intro w0_89 H locs ls h hI hl
              rw [hj89] at h
              refine lv_istore_n (lv' := [(3, .int w0_89), (0, .ref (a 0)), (1, .int x1), (2, .int x2), (4, .int v4_14)]) hx hb dX10_sumOf_89 rfl hl (by decide) rfl (fun ls hl => ?_)
              refine lv_iinc (v := v4_14 + 1) (lv' := [(4, .int (v4_14 + 1)), (3, .int w0_89), (0, .ref (a 0)), (1, .int x1), (2, .int x2)]) hx hb dX10_sumOf_90 hl (k := 4) rfl rfl (by decide) rfl (fun ls hl => ?_)
              refine lv_goto (tgt := 14) hx hb dX10_sumOf_93 (by decide) ?_
              exact ih14 _ _ _ _ _ _ h hI (lv_sub hl [2, 3, 4, 1, 0] rfl)
            refine lv_icmp_ne (tgt := 59) hx hb dX10_sumOf_52 (by decide) (fun c_52 => ?_) (fun c_52 => ?_)
            · have h := (if_neg c_52).symm.trans h
              refine lv_iload_n hx hb dX10_sumOf_59 rfl (lv_at hl 4 rfl) ?_
              refine lv_iload_n hx hb dX10_sumOf_60 rfl (lv_at hl 3 rfl) ?_
              obtain ⟨j88, hj88, h⟩ := gJoin1_in h
              have J88 : ∀ (w0_88 : Int32) (H : Heap) (locs : List Loc) (ls : Array Slot), j88 w0_88 = some out → g_S 21 D a (mE a cI cZ q_44.2) s.heap H locs → lv_has ls 6 [(0, .ref (a 0)), (1, .int x1), (2, .int x2), (4, .int v4_14)] → W p l e rmX10_sumOf s m args below meth c H locs 0 0 Q (F0 m 88 ls [.int w0_88, .int v3_14]) := by
                intro w0_88 H locs ls h hI hl
                rw [hj88] at h
                refine lv_iadd hx hb dX10_sumOf_88 ?_
                exact J89 _ _ _ _ h hI (lv_sub hl [0, 1, 2, 3] rfl)
              refine lv_if_eq (tgt := 86) hx hb dX10_sumOf_61 (by decide) (fun c_61 => ?_) (fun c_61 => ?_)
              · have h := (if_pos c_61).symm.trans h
                refine lv_iload hx hb dX10_sumOf_86 (lv_at hl 0 rfl) ?_
                exact J88 _ _ _ _ h hI (lv_sub hl [1, 2, 3, 5] rfl)
              · have h := (if_neg c_61).symm.trans h
                refine lv_aload_n hx hb dX10_sumOf_64 rfl (lv_at hl 1 rfl) ?_
                refine g_get F hI (by decide) mE_0 rfl ku_X10 20 (by decide) kf_X10_56 rfl dX10_sumOf_65 ?_
                refine lv_aload_n hx hb dX10_sumOf_68 rfl (lv_at hl 1 rfl) ?_
                refine g_get F hI (by decide) mE_0 rfl ku_X10 4 (by decide) kf_X10_16 rfl dX10_sumOf_69 ?_
                refine lv_aload_n hx hb dX10_sumOf_72 rfl (lv_at hl 1 rfl) ?_
                refine g_get F hI (by decide) mE_0 rfl ku_X10 24 (by decide) kf_X10_65 rfl dX10_sumOf_73 ?_
                refine lv_iload hx hb dX10_sumOf_76 (lv_at hl 5 rfl) ?_
                refine lv_iconst (v := 1) hx hb dX10_sumOf_78 (by decide) ?_
                refine lv_iadd hx hb dX10_sumOf_79 ?_
                obtain ⟨g_80, h⟩ := g_guard h
                refine g_iald F hI (by decide) mE_a18 0 rfl g_80 dX10_sumOf_80 ?_
                obtain ⟨g_81, h⟩ := g_guard h
                refine g_iald F hI (by decide) mE_a2 0 rfl g_81 dX10_sumOf_81 ?_
                obtain ⟨g_82, h⟩ := g_guard h
                refine g_iald F hI (by decide) mE_a15 0 rfl g_82 dX10_sumOf_82 ?_
                refine lv_goto (tgt := 88) hx hb dX10_sumOf_83 (by decide) ?_
                exact J88 _ _ _ _ h hI (lv_sub hl [1, 2, 3, 5] rfl)
            · have h := (if_pos c_52).symm.trans h
              refine lv_iconst (v := -1) hx hb dX10_sumOf_55 (by decide) ?_
              refine lv_goto (tgt := 89) hx hb dX10_sumOf_56 (by decide) ?_
              exact J89 _ _ _ _ h hI (lv_sub hl [1, 2, 3, 5] rfl)
    exact L14 _ _ _ _ _ _ _ h hI (lv_sub hl [2, 3, 4, 1, 0] rfl)
  refine lv_icmp_ge (tgt := 9) hx hb dX10_sumOf_2 (by decide) (fun c_2 => ?_) (fun c_2 => ?_)
  · have h := (if_pos c_2).symm.trans h
    refine lv_iconst (v := 0) hx hb dX10_sumOf_9 (by decide) ?_
    exact J10 _ _ _ _ h hI (lv_sub hl [0, 1, 2] rfl)
  · have h := (if_neg c_2).symm.trans h
    refine lv_iconst (v := -1) hx hb dX10_sumOf_5 (by decide) ?_
    refine lv_goto (tgt := 10) hx hb dX10_sumOf_6 (by decide) ?_
    exact J10 _ _ _ _ h hI (lv_sub hl [0, 1, 2] rfl)
/-- SpurlineModel.sumOfCourse(IZ)I -/
def f_X10_sumOfCourse (N : Nat) (σ : gSt) (x1 x2 : Int32) : Option (Int32 × gSt) :=
  gLoop2 (fun self2 (v3_2 : Int32) (s_2 : gSt) =>
    if x1 < 0 ∨ 5 ≤ x1.toNatClampNeg then none else
    if g_ga s_2 5 x1 ≤ v3_2 then
      if x1 < 0 ∨ 5 ≤ x1.toNatClampNeg then none else
      (f_X10_sumOf N s_2 (g_ga s_2 5 x1) x2).bind (fun (q_43 : Int32 × gSt) =>
      some (q_43.1, q_43.2))
    else
      if (6 * x1) + v3_2 < 0 ∨ 30 ≤ ((6 * x1) + v3_2).toNatClampNeg then none else
      if v3_2 < 0 ∨ 6 ≤ v3_2.toNatClampNeg then none else
      self2 (v3_2 + 1) (g_pa s_2 18 v3_2 (g_ga s_2 4 ((6 * x1) + v3_2)))) N 0 σ
abbrev rmX10_sumOfCourse : Room := { frames := 5, cells := 0, slots := 0, locals := 118 }
theorem kb_X10_sumOfCourse : g_CB yX10_sumOfCourse cX10_sumOfCourse 4 (some .int) 2 := ⟨kc_X10_sumOfCourse, kn_X10, by decide +kernel⟩
set_option maxRecDepth 100000 in
set_option maxHeartbeats 4000000 in
theorem c_X10_sumOfCourse (l : Launch) (D : va_G) (a : Nat → Nat) (cI cZ : ClassId) (hj : g_Inj 21 a) (N : Nat) (σ : gSt) (x1 x2 : Int32) (out : Int32 × gSt) (hh : f_X10_sumOfCourse N σ x1 x2 = some out) : Met l yX10_sumOfCourse (Cond.code yX10_sumOfCourse cX10_sumOfCourse 4 (some .int) :: gW) rmX10_sumOfCourse (g_Pc 21 D a (mE a cI cZ σ) [(cI, .int), (cZ, .boolean)] [.ref (a 0), .int x1, .int x2]) (g_Qi 21 D a (mE a cI cZ out.2) out.1) 0 0 (g_Own 21 a) := by
  refine g_meti (by decide) hj (Nat.le_of_ble_eq_true rfl) ?_
  intro p e s m args below meth c Q ls F hl hI hq
  have hx := F.1.1
  have hb := F.1.2.1
  have hl : lv_has ls 4 [(0, .ref (a 0)), (1, .int x1), (2, .int x2)] := hl
  have h := hh
  unfold f_X10_sumOfCourse at h
  refine lv_iconst (v := 0) hx hb dX10_sumOfCourse_0 (by decide) ?_
  refine lv_istore_n (lv' := [(3, .int 0), (0, .ref (a 0)), (1, .int x1), (2, .int x2)]) hx hb dX10_sumOfCourse_1 rfl hl (by decide) rfl (fun ls hl => ?_)
  obtain ⟨lp2, hz2, hs2, h⟩ := gLoop2_in h
  have L2 : ∀ (n : Nat) (v3_2 : Int32) (s_2 : gSt) (H : Heap) (locs : List Loc) (ls : Array Slot), lp2 n v3_2 s_2 = some out → g_S 21 D a (mE a cI cZ s_2) s.heap H locs → lv_has ls 4 [(0, .ref (a 0)), (1, .int x1), (2, .int x2), (3, .int v3_2)] → W p l e rmX10_sumOfCourse s m args below meth c H locs 0 0 Q (F0 m 2 ls []) := by
    intro n
    induction n with
    | zero => intro v3_2 s_2 H locs ls h; rw [hz2] at h; cases h
    | succ n ih2 =>
      intro v3_2 s_2 H locs ls h hI hl
      rw [hs2] at h
      refine lv_iload_n hx hb dX10_sumOfCourse_2 rfl (lv_at hl 3 rfl) ?_
      refine lv_aload_n hx hb dX10_sumOfCourse_3 rfl (lv_at hl 0 rfl) ?_
      refine g_get F hI (by decide) mE_0 rfl ku_X10 8 (by decide) kf_X10_26 rfl dX10_sumOfCourse_4 ?_
      refine lv_iload_n hx hb dX10_sumOfCourse_7 rfl (lv_at hl 1 rfl) ?_
      obtain ⟨g_8, h⟩ := g_guard h
      refine g_iald F hI (by decide) mE_a5 0 rfl g_8 dX10_sumOfCourse_8 ?_
      refine lv_icmp_ge (tgt := 35) hx hb dX10_sumOfCourse_9 (by decide) (fun c_9 => ?_) (fun c_9 => ?_)
      · have h := (if_pos c_9).symm.trans h
        refine lv_aload_n hx hb dX10_sumOfCourse_35 rfl (lv_at hl 0 rfl) ?_
        refine lv_aload_n hx hb dX10_sumOfCourse_36 rfl (lv_at hl 0 rfl) ?_
        refine g_get F hI (by decide) mE_0 rfl ku_X10 8 (by decide) kf_X10_26 rfl dX10_sumOfCourse_37 ?_
        refine lv_iload_n hx hb dX10_sumOfCourse_40 rfl (lv_at hl 1 rfl) ?_
        obtain ⟨g_41, h⟩ := g_guard h
        refine g_iald F hI (by decide) mE_a5 0 rfl g_41 dX10_sumOfCourse_41 ?_
        refine lv_iload_n hx hb dX10_sumOfCourse_42 rfl (lv_at hl 2 rfl) ?_
        obtain ⟨q_43, e_43, h⟩ := gBind_in h
        refine g_callVi (E' := mE a cI cZ q_43.2) (k0 := 0) (As := [.int (g_ga s_2 5 x1), .int x2]) (rest := []) F hI (c_X10_sumOf l D a cI cZ F.2.2 N s_2 (g_ga s_2 5 x1) x2 q_43 e_43) kb_X10_sumOf ki_X10_sumOf ks_X10_sumOf km_X10_155 ⟨Nat.le_of_ble_eq_true rfl, Nat.le_of_ble_eq_true rfl, rfl, rfl⟩ (by decide) mE_0 rfl hl.1 rfl (Nat.le_of_ble_eq_true rfl) ⟨Nat.zero_le _, Nat.zero_le _⟩ dX10_sumOfCourse_43 (fun H locs hI => ?_)
        have h := Option.some.inj h
        subst h
        exact hq _ _ _ _ hI dX10_sumOfCourse_46
      · have h := (if_neg c_9).symm.trans h
        refine lv_aload_n hx hb dX10_sumOfCourse_12 rfl (lv_at hl 0 rfl) ?_
        refine g_get F hI (by decide) mE_0 rfl ku_X10 24 (by decide) kf_X10_65 rfl dX10_sumOfCourse_13 ?_
        refine lv_iload_n hx hb dX10_sumOfCourse_16 rfl (lv_at hl 3 rfl) ?_
        refine lv_aload_n hx hb dX10_sumOfCourse_17 rfl (lv_at hl 0 rfl) ?_
        refine g_get F hI (by decide) mE_0 rfl ku_X10 7 (by decide) kf_X10_23 rfl dX10_sumOfCourse_18 ?_
        refine lv_bipush (v := 6) hx hb dX10_sumOfCourse_21 (by decide) ?_
        refine lv_iload_n hx hb dX10_sumOfCourse_23 rfl (lv_at hl 1 rfl) ?_
        refine lv_imul hx hb dX10_sumOfCourse_24 ?_
        refine lv_iload_n hx hb dX10_sumOfCourse_25 rfl (lv_at hl 3 rfl) ?_
        refine lv_iadd hx hb dX10_sumOfCourse_26 ?_
        obtain ⟨g_27, h⟩ := g_guard h
        refine g_iald F hI (by decide) mE_a4 0 rfl g_27 dX10_sumOfCourse_27 ?_
        obtain ⟨g_28, h⟩ := g_guard h
        refine g_iast (E' := mE a cI cZ (g_pa s_2 18 v3_2 (g_ga s_2 4 ((6 * x1) + v3_2)))) F hI (by decide) mE_a18 0 rfl g_28 rfl mE_sa dX10_sumOfCourse_28 (fun H locs hI => ?_)
        refine lv_iinc (v := v3_2 + 1) (lv' := [(3, .int (v3_2 + 1)), (0, .ref (a 0)), (1, .int x1), (2, .int x2)]) hx hb dX10_sumOfCourse_29 hl (k := 3) rfl rfl (by decide) rfl (fun ls hl => ?_)
        refine lv_goto (tgt := 2) hx hb dX10_sumOfCourse_32 (by decide) ?_
        exact ih2 _ _ _ _ _ h hI (lv_sub hl [1, 2, 3, 0] rfl)
  exact L2 _ _ _ _ _ _ h hI (lv_sub hl [1, 2, 3, 0] rfl)
/-- SpurlineModel.lays(II)Z -/
def f_X10_lays (N : Nat) (σ : gSt) (x1 x2 : Int32) : Option (Int32 × gSt) :=
  if x1 < 0 ∨ 5 ≤ x1.toNatClampNeg then none else
  gLoop4 (fun self18 (v4_18 : Int32) (v5_18 : Int32) (v6_18 : Int32) (s_18 : gSt) =>
    if v6_18 ≤ 0 then
      if 6 * x1 < 0 ∨ 30 ≤ (6 * x1).toNatClampNeg then none else
      if (0 : Int32) < 0 ∨ 6 ≤ (0 : Int32).toNatClampNeg then none else
      if ((6 * x1) + (g_ga σ 5 x1)) - 1 < 0 ∨ 30 ≤ (((6 * x1) + (g_ga σ 5 x1)) - 1).toNatClampNeg then none else
      if (g_ga σ 5 x1) - 1 < 0 ∨ 6 ≤ ((g_ga σ 5 x1) - 1).toNatClampNeg then none else
      if v5_18 = (1 <<< ((g_ga σ 5 x1) - 1 &&& 31)) - 2 then
        some (1, g_pa (g_pa s_18 18 0 (g_ga s_18 4 (6 * x1))) 18 ((g_ga σ 5 x1) - 1) (g_ga (g_pa s_18 18 0 (g_ga s_18 4 (6 * x1))) 4 (((6 * x1) + (g_ga σ 5 x1)) - 1)))
      else
        some (0, g_pa (g_pa s_18 18 0 (g_ga s_18 4 (6 * x1))) 18 ((g_ga σ 5 x1) - 1) (g_ga (g_pa s_18 18 0 (g_ga s_18 4 (6 * x1))) 4 (((6 * x1) + (g_ga σ 5 x1)) - 1)))
    else
      gJoin1 (fun (w0_59 : Int32) =>
          if (6 * x1) + (v4_18 - v4_18 / 6 * 6) < 0 ∨ 30 ≤ ((6 * x1) + (v4_18 - v4_18 / 6 * 6)).toNatClampNeg then none else
          if v6_18 < 0 ∨ 6 ≤ v6_18.toNatClampNeg then none else
          self18 (v4_18 / 6) (v5_18 ||| w0_59) (v6_18 + (-1)) (g_pa s_18 18 v6_18 (g_ga s_18 4 ((6 * x1) + (v4_18 - v4_18 / 6 * 6))))) (fun j59 =>
        if f_X10_in (v4_18 - v4_18 / 6 * 6) 1 ((g_ga σ 5 x1) - 2) = 0 then
          j59 0
        else
          j59 (1 <<< (v4_18 - v4_18 / 6 * 6 &&& 31)))) N x2 0 ((g_ga σ 5 x1) - 2) σ
abbrev rmX10_lays : Room := { frames := 1, cells := 0, slots := 0, locals := 22 }
theorem kb_X10_lays : g_CB yX10_lays cX10_lays 8 (some .boolean) 2 := ⟨kc_X10_lays, kn_X10, by decide +kernel⟩
set_option maxRecDepth 100000 in
set_option maxHeartbeats 4000000 in
theorem c_X10_lays (l : Launch) (D : va_G) (a : Nat → Nat) (cI cZ : ClassId) (hj : g_Inj 21 a) (N : Nat) (σ : gSt) (x1 x2 : Int32) (out : Int32 × gSt) (hh : f_X10_lays N σ x1 x2 = some out) : Met l yX10_lays (Cond.code yX10_lays cX10_lays 8 (some .boolean) :: gW) rmX10_lays (g_Pc 21 D a (mE a cI cZ σ) [(cI, .int), (cZ, .boolean)] [.ref (a 0), .int x1, .int x2]) (g_Qi 21 D a (mE a cI cZ out.2) out.1) 0 0 (g_Own 21 a) := by
  refine g_metz (by decide) hj (Nat.le_of_ble_eq_true rfl) ?_
  intro p e s m args below meth c Q ls F hl hI hq
  have hx := F.1.1
  have hb := F.1.2.1
  have hl : lv_has ls 8 [(0, .ref (a 0)), (1, .int x1), (2, .int x2)] := hl
  have h := hh
  unfold f_X10_lays at h
  refine lv_aload_n hx hb dX10_lays_0 rfl (lv_at hl 0 rfl) ?_
  refine g_get F hI (by decide) mE_0 rfl ku_X10 8 (by decide) kf_X10_26 rfl dX10_lays_1 ?_
  refine lv_iload_n hx hb dX10_lays_4 rfl (lv_at hl 1 rfl) ?_
  obtain ⟨g_5, h⟩ := g_guard h
  refine g_iald F hI (by decide) mE_a5 0 rfl g_5 dX10_lays_5 ?_
  refine lv_istore_n (lv' := [(3, .int (g_ga σ 5 x1)), (0, .ref (a 0)), (1, .int x1), (2, .int x2)]) hx hb dX10_lays_6 rfl hl (by decide) rfl (fun ls hl => ?_)
  refine lv_iload_n hx hb dX10_lays_7 rfl (lv_at hl 3 rfl) ?_
  refine lv_istore (lv' := [(4, .int x2), (3, .int (g_ga σ 5 x1)), (0, .ref (a 0)), (1, .int x1), (2, .int x2)]) hx hb dX10_lays_8 hl (by decide) rfl (fun ls hl => ?_)
  refine lv_iconst (v := 0) hx hb dX10_lays_10 (by decide) ?_
  refine lv_istore (lv' := [(5, .int 0), (4, .int x2), (3, .int (g_ga σ 5 x1)), (0, .ref (a 0)), (1, .int x1), (2, .int x2)]) hx hb dX10_lays_11 hl (by decide) rfl (fun ls hl => ?_)
  refine lv_iload_n hx hb dX10_lays_13 rfl (lv_at hl 2 rfl) ?_
  refine lv_iconst (v := 2) hx hb dX10_lays_14 (by decide) ?_
  refine lv_isub hx hb dX10_lays_15 ?_
  refine lv_istore (lv' := [(6, .int ((g_ga σ 5 x1) - 2)), (5, .int 0), (4, .int x2), (3, .int (g_ga σ 5 x1)), (0, .ref (a 0)), (1, .int x1), (2, .int x2)]) hx hb dX10_lays_16 hl (by decide) rfl (fun ls hl => ?_)
  obtain ⟨lp18, hz18, hs18, h⟩ := gLoop4_in h
  have L18 : ∀ (n : Nat) (v4_18 : Int32) (v5_18 : Int32) (v6_18 : Int32) (s_18 : gSt) (H : Heap) (locs : List Loc) (ls : Array Slot), lp18 n v4_18 v5_18 v6_18 s_18 = some out → g_S 21 D a (mE a cI cZ s_18) s.heap H locs → lv_has ls 8 [(0, .ref (a 0)), (1, .int x1), (3, .int (g_ga σ 5 x1)), (4, .int v4_18), (5, .int v5_18), (6, .int v6_18)] → W p l e rmX10_lays s m args below meth c H locs 0 0 Q (F0 m 18 ls []) := by
    intro n
    induction n with
    | zero => intro v4_18 v5_18 v6_18 s_18 H locs ls h; rw [hz18] at h; cases h
    | succ n ih18 =>
      intro v4_18 v5_18 v6_18 s_18 H locs ls h hI hl
      rw [hs18] at h
      refine lv_iload hx hb dX10_lays_18 (lv_at hl 5 rfl) ?_
      refine lv_if_le (tgt := 87) hx hb dX10_lays_20 (by decide) (fun c_20 => ?_) (fun c_20 => ?_)
      · have h := (if_pos c_20).symm.trans h
        refine lv_aload_n hx hb dX10_lays_87 rfl (lv_at hl 0 rfl) ?_
        refine g_get F hI (by decide) mE_0 rfl ku_X10 24 (by decide) kf_X10_65 rfl dX10_lays_88 ?_
        refine lv_iconst (v := 0) hx hb dX10_lays_91 (by decide) ?_
        refine lv_aload_n hx hb dX10_lays_92 rfl (lv_at hl 0 rfl) ?_
        refine g_get F hI (by decide) mE_0 rfl ku_X10 7 (by decide) kf_X10_23 rfl dX10_lays_93 ?_
        refine lv_bipush (v := 6) hx hb dX10_lays_96 (by decide) ?_
        refine lv_iload_n hx hb dX10_lays_98 rfl (lv_at hl 1 rfl) ?_
        refine lv_imul hx hb dX10_lays_99 ?_
        obtain ⟨g_100, h⟩ := g_guard h
        refine g_iald F hI (by decide) mE_a4 0 rfl g_100 dX10_lays_100 ?_
        obtain ⟨g_101, h⟩ := g_guard h
        refine g_iast (E' := mE a cI cZ (g_pa s_18 18 0 (g_ga s_18 4 (6 * x1)))) F hI (by decide) mE_a18 0 rfl g_101 rfl mE_sa dX10_lays_101 (fun H locs hI => ?_)
        refine lv_aload_n hx hb dX10_lays_102 rfl (lv_at hl 0 rfl) ?_
        refine g_get F hI (by decide) mE_0 rfl ku_X10 24 (by decide) kf_X10_65 rfl dX10_lays_103 ?_
        refine lv_iload_n hx hb dX10_lays_106 rfl (lv_at hl 2 rfl) ?_
        refine lv_iconst (v := 1) hx hb dX10_lays_107 (by decide) ?_
        refine lv_isub hx hb dX10_lays_108 ?_
        refine lv_aload_n hx hb dX10_lays_109 rfl (lv_at hl 0 rfl) ?_
        refine g_get F hI (by decide) mE_0 rfl ku_X10 7 (by decide) kf_X10_23 rfl dX10_lays_110 ?_
        refine lv_bipush (v := 6) hx hb dX10_lays_113 (by decide) ?_
        refine lv_iload_n hx hb dX10_lays_115 rfl (lv_at hl 1 rfl) ?_
        refine lv_imul hx hb dX10_lays_116 ?_
        refine lv_iload_n hx hb dX10_lays_117 rfl (lv_at hl 2 rfl) ?_
        refine lv_iadd hx hb dX10_lays_118 ?_
        refine lv_iconst (v := 1) hx hb dX10_lays_119 (by decide) ?_
        refine lv_isub hx hb dX10_lays_120 ?_
        obtain ⟨g_121, h⟩ := g_guard h
        refine g_iald F hI (by decide) mE_a4 0 rfl g_121 dX10_lays_121 ?_
        obtain ⟨g_122, h⟩ := g_guard h
        refine g_iast (E' := mE a cI cZ (g_pa (g_pa s_18 18 0 (g_ga s_18 4 (6 * x1))) 18 ((g_ga σ 5 x1) - 1) (g_ga (g_pa s_18 18 0 (g_ga s_18 4 (6 * x1))) 4 (((6 * x1) + (g_ga σ 5 x1)) - 1)))) F hI (by decide) mE_a18 0 rfl g_122 rfl mE_sa dX10_lays_122 (fun H locs hI => ?_)
        refine lv_iload hx hb dX10_lays_123 (lv_at hl 4 rfl) ?_
        refine lv_iconst (v := 1) hx hb dX10_lays_125 (by decide) ?_
        refine lv_iload_n hx hb dX10_lays_126 rfl (lv_at hl 2 rfl) ?_
        refine lv_iconst (v := 1) hx hb dX10_lays_127 (by decide) ?_
        refine lv_isub hx hb dX10_lays_128 ?_
        refine lv_ishl hx hb dX10_lays_129 ?_
        refine lv_iconst (v := 2) hx hb dX10_lays_130 (by decide) ?_
        refine lv_isub hx hb dX10_lays_131 ?_
        refine lv_icmp_ne (tgt := 139) hx hb dX10_lays_132 (by decide) (fun c_132 => ?_) (fun c_132 => ?_)
        · have h := (if_neg c_132).symm.trans h
          refine lv_iconst (v := 0) hx hb dX10_lays_139 (by decide) ?_
          have h := Option.some.inj h
          subst h
          exact hq _ _ _ _ _ (show (0 : Int32) &&& 1 = 0 from by decide) hI dX10_lays_140
        · have h := (if_pos c_132).symm.trans h
          refine lv_iconst (v := 1) hx hb dX10_lays_135 (by decide) ?_
          refine lv_goto (tgt := 140) hx hb dX10_lays_136 (by decide) ?_
          have h := Option.some.inj h
          subst h
          exact hq _ _ _ _ _ (show (1 : Int32) &&& 1 = 1 from by decide) hI dX10_lays_140
      · have h := (if_neg c_20).symm.trans h
        refine lv_iload hx hb dX10_lays_23 (lv_at hl 3 rfl) ?_
        refine lv_bipush (v := 6) hx hb dX10_lays_25 (by decide) ?_
        refine lv_irem hx hb dX10_lays_27 (by decide) ?_
        refine lv_istore (lv' := [(7, .int (v4_18 - v4_18 / 6 * 6)), (0, .ref (a 0)), (1, .int x1), (3, .int (g_ga σ 5 x1)), (4, .int v4_18), (5, .int v5_18), (6, .int v6_18)]) hx hb dX10_lays_28 hl (by decide) rfl (fun ls hl => ?_)
        refine lv_iload hx hb dX10_lays_30 (lv_at hl 4 rfl) ?_
        refine lv_bipush (v := 6) hx hb dX10_lays_32 (by decide) ?_
        refine lv_idiv hx hb dX10_lays_34 (by decide) ?_
        refine lv_istore (lv' := [(4, .int (v4_18 / 6)), (7, .int (v4_18 - v4_18 / 6 * 6)), (0, .ref (a 0)), (1, .int x1), (3, .int (g_ga σ 5 x1)), (5, .int v5_18), (6, .int v6_18)]) hx hb dX10_lays_35 hl (by decide) rfl (fun ls hl => ?_)
        refine lv_iload hx hb dX10_lays_37 (lv_at hl 5 rfl) ?_
        refine lv_iload hx hb dX10_lays_39 (lv_at hl 1 rfl) ?_
        refine lv_iconst (v := 1) hx hb dX10_lays_41 (by decide) ?_
        refine lv_iload_n hx hb dX10_lays_42 rfl (lv_at hl 4 rfl) ?_
        refine lv_iconst (v := 2) hx hb dX10_lays_43 (by decide) ?_
        refine lv_isub hx hb dX10_lays_44 ?_
        refine g_callSi (E' := mE a cI cZ s_18) (As := [.int (v4_18 - v4_18 / 6 * 6), .int 1, .int ((g_ga σ 5 x1) - 2)]) (rest := [.int v5_18]) F hI (c_X10_in l D a cI cZ F.2.2 s_18 (v4_18 - v4_18 / 6 * 6) 1 ((g_ga σ 5 x1) - 2)) kb_X10_in kt_X10_in km_X10_81 ⟨Nat.le_of_ble_eq_true rfl, Nat.le_of_ble_eq_true rfl, rfl, rfl⟩ hl.1 rfl (Nat.le_of_ble_eq_true rfl) ⟨Nat.zero_le _, Nat.zero_le _⟩ dX10_lays_45 (fun H locs hI => ?_)
        obtain ⟨j59, hj59, h⟩ := gJoin1_in h
        have J59 : ∀ (w0_59 : Int32) (H : Heap) (locs : List Loc) (ls : Array Slot), j59 w0_59 = some out → g_S 21 D a (mE a cI cZ s_18) s.heap H locs → lv_has ls 8 [(0, .ref (a 0)), (1, .int x1), (3, .int (g_ga σ 5 x1)), (4, .int (v4_18 / 6)), (6, .int v6_18), (7, .int (v4_18 - v4_18 / 6 * 6))] → W p l e rmX10_lays s m args below meth c H locs 0 0 Q (F0 m 59 ls [.int w0_59, .int v5_18]) := by
          intro w0_59 H locs ls h hI hl
          rw [hj59] at h
          refine lv_ior hx hb dX10_lays_59 ?_
          refine lv_istore (lv' := [(5, .int (v5_18 ||| w0_59)), (0, .ref (a 0)), (1, .int x1), (3, .int (g_ga σ 5 x1)), (4, .int (v4_18 / 6)), (6, .int v6_18), (7, .int (v4_18 - v4_18 / 6 * 6))]) hx hb dX10_lays_60 hl (by decide) rfl (fun ls hl => ?_)
          refine lv_aload_n hx hb dX10_lays_62 rfl (lv_at hl 1 rfl) ?_
          refine g_get F hI (by decide) mE_0 rfl ku_X10 24 (by decide) kf_X10_65 rfl dX10_lays_63 ?_
          refine lv_iload hx hb dX10_lays_66 (lv_at hl 5 rfl) ?_
          refine lv_aload_n hx hb dX10_lays_68 rfl (lv_at hl 1 rfl) ?_
          refine g_get F hI (by decide) mE_0 rfl ku_X10 7 (by decide) kf_X10_23 rfl dX10_lays_69 ?_
          refine lv_bipush (v := 6) hx hb dX10_lays_72 (by decide) ?_
          refine lv_iload_n hx hb dX10_lays_74 rfl (lv_at hl 2 rfl) ?_
          refine lv_imul hx hb dX10_lays_75 ?_
          refine lv_iload hx hb dX10_lays_76 (lv_at hl 6 rfl) ?_
          refine lv_iadd hx hb dX10_lays_78 ?_
          obtain ⟨g_79, h⟩ := g_guard h
          refine g_iald F hI (by decide) mE_a4 0 rfl g_79 dX10_lays_79 ?_
          obtain ⟨g_80, h⟩ := g_guard h
          refine g_iast (E' := mE a cI cZ (g_pa s_18 18 v6_18 (g_ga s_18 4 ((6 * x1) + (v4_18 - v4_18 / 6 * 6))))) F hI (by decide) mE_a18 0 rfl g_80 rfl mE_sa dX10_lays_80 (fun H locs hI => ?_)
          refine lv_iinc (v := v6_18 + (-1)) (lv' := [(6, .int (v6_18 + (-1))), (5, .int (v5_18 ||| w0_59)), (0, .ref (a 0)), (1, .int x1), (3, .int (g_ga σ 5 x1)), (4, .int (v4_18 / 6)), (7, .int (v4_18 - v4_18 / 6 * 6))]) hx hb dX10_lays_81 hl (k := 5) rfl rfl (by decide) rfl (fun ls hl => ?_)
          refine lv_goto (tgt := 18) hx hb dX10_lays_84 (by decide) ?_
          exact ih18 _ _ _ _ _ _ _ h hI (lv_sub hl [2, 3, 4, 5, 1, 0] rfl)
        refine lv_if_eq (tgt := 58) hx hb dX10_lays_48 (by decide) (fun c_48 => ?_) (fun c_48 => ?_)
        · have h := (if_pos c_48).symm.trans h
          refine lv_iconst (v := 0) hx hb dX10_lays_58 (by decide) ?_
          exact J59 _ _ _ _ h hI (lv_sub hl [2, 3, 4, 0, 6, 1] rfl)
        · have h := (if_neg c_48).symm.trans h
          refine lv_iconst (v := 1) hx hb dX10_lays_51 (by decide) ?_
          refine lv_iload hx hb dX10_lays_52 (lv_at hl 1 rfl) ?_
          refine lv_ishl hx hb dX10_lays_54 ?_
          refine lv_goto (tgt := 59) hx hb dX10_lays_55 (by decide) ?_
          exact J59 _ _ _ _ h hI (lv_sub hl [2, 3, 4, 0, 6, 1] rfl)
  exact L18 _ _ _ _ _ _ _ _ h hI (lv_sub hl [4, 5, 3, 2, 1, 0] rfl)
/-- SpurlineModel.isLess(I)Z -/
def f_X10_isLess (N : Nat) (σ : gSt) (x1 : Int32) : Option Int32 :=
  gLoop1 (fun self2 (v2_2 : Int32) =>
    gJoin0 (
        if v2_2 < 0 ∨ 6 ≤ v2_2.toNatClampNeg then none else
        if v2_2 < 0 ∨ 6 ≤ v2_2.toNatClampNeg then none else
        if g_ga σ 19 v2_2 ≤ g_ga σ 18 v2_2 then
          some 0
        else
          some 1) (fun j30 =>
      if x1 - 1 ≤ v2_2 then
        j30
      else
        if v2_2 < 0 ∨ 6 ≤ v2_2.toNatClampNeg then none else
        if v2_2 < 0 ∨ 6 ≤ v2_2.toNatClampNeg then none else
        if g_ga σ 18 v2_2 = g_ga σ 19 v2_2 then
          self2 (v2_2 + 1)
        else
          j30)) N 0
abbrev rmX10_isLess : Room := { frames := 0, cells := 0, slots := 0, locals := 0 }
theorem kb_X10_isLess : g_CB yX10_isLess cX10_isLess 3 (some .boolean) 1 := ⟨kc_X10_isLess, kn_X10, by decide +kernel⟩
set_option maxRecDepth 100000 in
set_option maxHeartbeats 4000000 in
theorem c_X10_isLess (l : Launch) (D : va_G) (a : Nat → Nat) (cI cZ : ClassId) (hj : g_Inj 21 a) (N : Nat) (σ : gSt) (x1 : Int32) (out : Int32) (hh : f_X10_isLess N σ x1 = some out) : Met l yX10_isLess (Cond.code yX10_isLess cX10_isLess 3 (some .boolean) :: gW) rmX10_isLess (g_Pc 21 D a (mE a cI cZ σ) [(cI, .int), (cZ, .boolean)] [.ref (a 0), .int x1]) (g_Qi 21 D a (mE a cI cZ σ) out) 0 0 (g_Own 21 a) := by
  refine g_metz (by decide) hj (Nat.le_of_ble_eq_true rfl) ?_
  intro p e s m args below meth c Q ls F hl hI hq
  have hx := F.1.1
  have hb := F.1.2.1
  have hl : lv_has ls 3 [(0, .ref (a 0)), (1, .int x1)] := hl
  have h := hh
  unfold f_X10_isLess at h
  refine lv_iconst (v := 0) hx hb dX10_isLess_0 (by decide) ?_
  refine lv_istore_n (lv' := [(2, .int 0), (0, .ref (a 0)), (1, .int x1)]) hx hb dX10_isLess_1 rfl hl (by decide) rfl (fun ls hl => ?_)
  obtain ⟨lp2, hz2, hs2, h⟩ := gLoop1_in h
  have L2 : ∀ (n : Nat) (v2_2 : Int32) (H : Heap) (locs : List Loc) (ls : Array Slot), lp2 n v2_2 = some out → g_S 21 D a (mE a cI cZ σ) s.heap H locs → lv_has ls 3 [(0, .ref (a 0)), (1, .int x1), (2, .int v2_2)] → W p l e rmX10_isLess s m args below meth c H locs 0 0 Q (F0 m 2 ls []) := by
    intro n
    induction n with
    | zero => intro v2_2 H locs ls h; rw [hz2] at h; cases h
    | succ n ih2 =>
      intro v2_2 H locs ls h hI hl
      rw [hs2] at h
      refine lv_iload_n hx hb dX10_isLess_2 rfl (lv_at hl 2 rfl) ?_
      refine lv_iload_n hx hb dX10_isLess_3 rfl (lv_at hl 1 rfl) ?_
      refine lv_iconst (v := 1) hx hb dX10_isLess_4 (by decide) ?_
      refine lv_isub hx hb dX10_isLess_5 ?_
      obtain ⟨j30, hj30, h⟩ := gJoin0_in h
      have J30 : ∀ (H : Heap) (locs : List Loc) (ls : Array Slot), j30  = some out → g_S 21 D a (mE a cI cZ σ) s.heap H locs → lv_has ls 3 [(0, .ref (a 0)), (2, .int v2_2)] → W p l e rmX10_isLess s m args below meth c H locs 0 0 Q (F0 m 30 ls []) := by
        intro  H locs ls h hI hl
        rw [hj30] at h
        refine lv_aload_n hx hb dX10_isLess_30 rfl (lv_at hl 0 rfl) ?_
        refine g_get F hI (by decide) mE_0 rfl ku_X10 24 (by decide) kf_X10_65 rfl dX10_isLess_31 ?_
        refine lv_iload_n hx hb dX10_isLess_34 rfl (lv_at hl 1 rfl) ?_
        obtain ⟨g_35, h⟩ := g_guard h
        refine g_iald F hI (by decide) mE_a18 0 rfl g_35 dX10_isLess_35 ?_
        refine lv_aload_n hx hb dX10_isLess_36 rfl (lv_at hl 0 rfl) ?_
        refine g_get F hI (by decide) mE_0 rfl ku_X10 25 (by decide) kf_X10_68 rfl dX10_isLess_37 ?_
        refine lv_iload_n hx hb dX10_isLess_40 rfl (lv_at hl 1 rfl) ?_
        obtain ⟨g_41, h⟩ := g_guard h
        refine g_iald F hI (by decide) mE_a19 0 rfl g_41 dX10_isLess_41 ?_
        refine lv_icmp_ge (tgt := 49) hx hb dX10_isLess_42 (by decide) (fun c_42 => ?_) (fun c_42 => ?_)
        · have h := (if_pos c_42).symm.trans h
          refine lv_iconst (v := 0) hx hb dX10_isLess_49 (by decide) ?_
          have h := Option.some.inj h
          subst h
          exact hq _ _ _ _ _ (show (0 : Int32) &&& 1 = 0 from by decide) hI dX10_isLess_50
        · have h := (if_neg c_42).symm.trans h
          refine lv_iconst (v := 1) hx hb dX10_isLess_45 (by decide) ?_
          refine lv_goto (tgt := 50) hx hb dX10_isLess_46 (by decide) ?_
          have h := Option.some.inj h
          subst h
          exact hq _ _ _ _ _ (show (1 : Int32) &&& 1 = 1 from by decide) hI dX10_isLess_50
      refine lv_icmp_ge (tgt := 30) hx hb dX10_isLess_6 (by decide) (fun c_6 => ?_) (fun c_6 => ?_)
      · have h := (if_pos c_6).symm.trans h
        exact J30 _ _ _ h hI (lv_sub hl [0, 2] rfl)
      · have h := (if_neg c_6).symm.trans h
        refine lv_aload_n hx hb dX10_isLess_9 rfl (lv_at hl 0 rfl) ?_
        refine g_get F hI (by decide) mE_0 rfl ku_X10 24 (by decide) kf_X10_65 rfl dX10_isLess_10 ?_
        refine lv_iload_n hx hb dX10_isLess_13 rfl (lv_at hl 2 rfl) ?_
        obtain ⟨g_14, h⟩ := g_guard h
        refine g_iald F hI (by decide) mE_a18 0 rfl g_14 dX10_isLess_14 ?_
        refine lv_aload_n hx hb dX10_isLess_15 rfl (lv_at hl 0 rfl) ?_
        refine g_get F hI (by decide) mE_0 rfl ku_X10 25 (by decide) kf_X10_68 rfl dX10_isLess_16 ?_
        refine lv_iload_n hx hb dX10_isLess_19 rfl (lv_at hl 2 rfl) ?_
        obtain ⟨g_20, h⟩ := g_guard h
        refine g_iald F hI (by decide) mE_a19 0 rfl g_20 dX10_isLess_20 ?_
        refine lv_icmp_ne (tgt := 30) hx hb dX10_isLess_21 (by decide) (fun c_21 => ?_) (fun c_21 => ?_)
        · have h := (if_neg c_21).symm.trans h
          exact J30 _ _ _ h hI (lv_sub hl [0, 2] rfl)
        · have h := (if_pos c_21).symm.trans h
          refine lv_iinc (v := v2_2 + 1) (lv' := [(2, .int (v2_2 + 1)), (0, .ref (a 0)), (1, .int x1)]) hx hb dX10_isLess_24 hl (k := 2) rfl rfl (by decide) rfl (fun ls hl => ?_)
          refine lv_goto (tgt := 2) hx hb dX10_isLess_27 (by decide) ?_
          exact ih2 _ _ _ _ h hI (lv_sub hl [1, 2, 0] rfl)
  exact L2 _ _ _ _ _ h hI (lv_sub hl [1, 2, 0] rfl)
/-- SpurlineModel.arrange(II)I -/
def f_X10_arrange (N : Nat) (σ : gSt) (x1 x2 : Int32) : Option (Int32 × gSt) :=
  gJoin1 (fun (w0_25 : Int32) =>
      if (f_X10_asked__ σ (f_X10_isClass x1) (f_X10_in x2 0 9999) w0_25).1 = 0 then
        some (0, (f_X10_asked__ σ (f_X10_isClass x1) (f_X10_in x2 0 9999) w0_25).2)
      else
        if x1 < 0 ∨ 5 ≤ x1.toNatClampNeg then none else
        gJoin1 (fun (w0_74 : Int32) =>
            gLoop4 (fun self87 (v5_87 : Int32) (v6_87 : Int32) (v7_87 : Int32) (s_87 : gSt) =>
              if w0_74 ≤ v7_87 then
                gLoop2 (fun self274 (v7_274 : Int32) (s_274 : gSt) =>
                  gJoin0 (
                      (f_X10_sumOfCourse N s_274 x1 1).bind (fun (q_315 : Int32 × gSt) =>
                      some (q_315.1, q_315.2))) (fun j312 =>
                    if g_ga ((f_X10_asked__ σ (f_X10_isClass x1) (f_X10_in x2 0 9999) w0_25).2) 5 x1 ≤ v7_274 then
                      j312
                    else
                      if 1000000000 ≤ v5_87 then
                        j312
                      else
                        if v7_274 < 0 ∨ 6 ≤ v7_274.toNatClampNeg then none else
                        if (6 * x1) + v7_274 < 0 ∨ 30 ≤ ((6 * x1) + v7_274).toNatClampNeg then none else
                        self274 (v7_274 + 1) (g_pa s_274 4 ((6 * x1) + v7_274) (g_ga s_274 19 v7_274)))) N 0 s_87
              else
                (f_X10_lays N s_87 x1 v7_87).bind (fun (q_98 : Int32 × gSt) =>
                gJoin2 (fun (w0_114 : Int32) (s_114 : gSt) =>
                    gJoin2 (fun (w0_133 : Int32) (s_133 : gSt) =>
                        gJoin1 (fun (w0_152 : Int32) =>
                            gJoin1 (fun (w0_201 : Int32) =>
                                gLoop2 (fun self206 (v12_206 : Int32) (s_206 : gSt) =>
                                  gJoin0 (
                                      gJoin1 (fun (w0_249 : Int32) =>
                                          gJoin1 (fun (w0_263 : Int32) =>
                                              self87 w0_249 w0_263 (v7_87 + 1) s_206) (fun j263 =>
                                            if w0_201 = 0 then
                                              j263 v6_87
                                            else
                                              j263 w0_133)) (fun j249 =>
                                        if w0_201 = 0 then
                                          j249 v5_87
                                        else
                                          j249 w0_152)) (fun j237 =>
                                    if g_ga ((f_X10_asked__ σ (f_X10_isClass x1) (f_X10_in x2 0 9999) w0_25).2) 5 x1 ≤ v12_206 then
                                      j237
                                    else
                                      if w0_201 = 0 then
                                        j237
                                      else
                                        if v12_206 < 0 ∨ 6 ≤ v12_206.toNatClampNeg then none else
                                        if v12_206 < 0 ∨ 6 ≤ v12_206.toNatClampNeg then none else
                                        self206 (v12_206 + 1) (g_pa s_206 19 v12_206 (g_ga s_206 18 v12_206)))) N 0 s_133) (fun j201 =>
                            gJoin0 (
                                j201 0) (fun j200 =>
                              if w0_114 = (-1) then
                                j200
                              else
                                gJoin0 (
                                    j201 1) (fun j196 =>
                                  if w0_152 < v5_87 then
                                    j196
                                  else
                                    if w0_152 = v5_87 then
                                      if w0_133 < v6_87 then
                                        j196
                                      else
                                        if w0_133 = v6_87 then
                                          (f_X10_isLess N s_133 (g_ga ((f_X10_asked__ σ (f_X10_isClass x1) (f_X10_in x2 0 9999) w0_25).2) 5 x1)).bind (fun (r_190 : Int32) =>
                                          if r_190 = 0 then
                                            j200
                                          else
                                            j196)
                                        else
                                          j200
                                    else
                                      j200)))) (fun j152 =>
                          if w0_114 = (-1) then
                            j152 1000000000
                          else
                            j152 (f_X10_apart w0_114 x2))) (fun j133 =>
                      if w0_114 = (-1) then
                        j133 1000000000 s_114
                      else
                        (f_X10_sumOf N s_114 (g_ga ((f_X10_asked__ σ (f_X10_isClass x1) (f_X10_in x2 0 9999) w0_25).2) 5 x1) 0).bind (fun (q_130 : Int32 × gSt) =>
                        j133 q_130.1 q_130.2))) (fun j114 =>
                  if q_98.1 = 0 then
                    j114 (-1) q_98.2
                  else
                    (f_X10_sumOf N q_98.2 (g_ga ((f_X10_asked__ σ (f_X10_isClass x1) (f_X10_in x2 0 9999) w0_25).2) 5 x1) 1).bind (fun (q_107 : Int32 × gSt) =>
                    j114 q_107.1 q_107.2)))) N 1000000000 1000000000 0 ((f_X10_asked__ σ (f_X10_isClass x1) (f_X10_in x2 0 9999) w0_25).2)) (fun j74 =>
          if g_ga ((f_X10_asked__ σ (f_X10_isClass x1) (f_X10_in x2 0 9999) w0_25).2) 5 x1 = 4 then
            j74 36
          else
            if g_ga ((f_X10_asked__ σ (f_X10_isClass x1) (f_X10_in x2 0 9999) w0_25).2) 5 x1 = 5 then
              j74 216
            else
              if g_ga ((f_X10_asked__ σ (f_X10_isClass x1) (f_X10_in x2 0 9999) w0_25).2) 5 x1 = 6 then
                j74 1296
              else
                j74 0)) (fun j25 =>
    if σ.2 4 = 0 then
      j25 1
    else
      j25 0)
abbrev rmX10_arrange : Room := { frames := 6, cells := 0, slots := 0, locals := 141 }
theorem kb_X10_arrange : g_CB yX10_arrange cX10_arrange 13 (some .int) 2 := ⟨kc_X10_arrange, kn_X10, by decide +kernel⟩
set_option maxRecDepth 100000 in
set_option maxHeartbeats 4000000 in
theorem c_X10_arrange (l : Launch) (D : va_G) (a : Nat → Nat) (cI cZ : ClassId) (hj : g_Inj 21 a) (N : Nat) (σ : gSt) (x1 x2 : Int32) (out : Int32 × gSt) (hh : f_X10_arrange N σ x1 x2 = some out) : Met l yX10_arrange (Cond.code yX10_arrange cX10_arrange 13 (some .int) :: gW) rmX10_arrange (g_Pc 21 D a (mE a cI cZ σ) [(cI, .int), (cZ, .boolean)] [.ref (a 0), .int x1, .int x2]) (g_Qi 21 D a (mE a cI cZ out.2) out.1) 0 0 (g_Own 21 a) := by
  refine g_meti (by decide) hj (Nat.le_of_ble_eq_true rfl) ?_
  intro p e s m args below meth c Q ls F hl hI hq
  have hx := F.1.1
  have hb := F.1.2.1
  have hl : lv_has ls 13 [(0, .ref (a 0)), (1, .int x1), (2, .int x2)] := hl
  have h := hh
  unfold f_X10_arrange at h
  refine lv_aload_n hx hb dX10_arrange_0 rfl (lv_at hl 0 rfl) ?_
  refine lv_iload_n hx hb dX10_arrange_1 rfl (lv_at hl 1 rfl) ?_
  refine g_callSi (E' := mE a cI cZ σ) (As := [.int x1]) (rest := [.ref (a 0)]) F hI (c_X10_isClass l D a cI cZ F.2.2 σ x1) kb_X10_isClass kt_X10_isClass km_X10_148 ⟨Nat.le_of_ble_eq_true rfl, Nat.le_of_ble_eq_true rfl, rfl, rfl⟩ hl.1 rfl (Nat.le_of_ble_eq_true rfl) ⟨Nat.zero_le _, Nat.zero_le _⟩ dX10_arrange_2 (fun H locs hI => ?_)
  refine lv_iload_n hx hb dX10_arrange_5 rfl (lv_at hl 2 rfl) ?_
  refine lv_iconst (v := 0) hx hb dX10_arrange_6 (by decide) ?_
  refine lv_sipush (v := 9999) hx hb dX10_arrange_7 (by decide) ?_
  refine g_callSi (E' := mE a cI cZ σ) (As := [.int x2, .int 0, .int 9999]) (rest := [.int (f_X10_isClass x1), .ref (a 0)]) F hI (c_X10_in l D a cI cZ F.2.2 σ x2 0 9999) kb_X10_in kt_X10_in km_X10_81 ⟨Nat.le_of_ble_eq_true rfl, Nat.le_of_ble_eq_true rfl, rfl, rfl⟩ hl.1 rfl (Nat.le_of_ble_eq_true rfl) ⟨Nat.zero_le _, Nat.zero_le _⟩ dX10_arrange_10 (fun H locs hI => ?_)
  refine lv_aload_n hx hb dX10_arrange_13 rfl (lv_at hl 0 rfl) ?_
  refine g_get F hI (by decide) mE_0 rfl ku_X10 16 (by decide) kf_X10_151 rfl dX10_arrange_14 ?_
  obtain ⟨j25, hj25, h⟩ := gJoin1_in h
  have J25 : ∀ (w0_25 : Int32) (H : Heap) (locs : List Loc) (ls : Array Slot), j25 w0_25 = some out → g_S 21 D a (mE a cI cZ σ) s.heap H locs → lv_has ls 13 [(0, .ref (a 0)), (1, .int x1), (2, .int x2)] → W p l e rmX10_arrange s m args below meth c H locs 0 0 Q (F0 m 25 ls [.int w0_25, .int (f_X10_in x2 0 9999), .int (f_X10_isClass x1), .ref (a 0)]) := by
    intro w0_25 H locs ls h hI hl
    rw [hj25] at h
    refine g_callVi (E' := mE a cI cZ ((f_X10_asked__ σ (f_X10_isClass x1) (f_X10_in x2 0 9999) w0_25).2)) (k0 := 0) (As := [.int (f_X10_isClass x1), .int (f_X10_in x2 0 9999), .int w0_25]) (rest := []) F hI (c_X10_asked__ l D a cI cZ F.2.2 σ (f_X10_isClass x1) (f_X10_in x2 0 9999) w0_25) kb_X10_asked__ ki_X10_asked__ ks_X10_asked__ km_X10_159 ⟨Nat.le_of_ble_eq_true rfl, Nat.le_of_ble_eq_true rfl, rfl, rfl⟩ (by decide) mE_0 rfl hl.1 rfl (Nat.le_of_ble_eq_true rfl) ⟨Nat.zero_le _, Nat.zero_le _⟩ dX10_arrange_25 (fun H locs hI => ?_)
    refine lv_if_ne (tgt := 33) hx hb dX10_arrange_28 (by decide) (fun c_28 => ?_) (fun c_28 => ?_)
    · have h := (if_neg c_28).symm.trans h
      refine lv_aload_n hx hb dX10_arrange_33 rfl (lv_at hl 0 rfl) ?_
      refine g_get F hI (by decide) mE_0 rfl ku_X10 8 (by decide) kf_X10_26 rfl dX10_arrange_34 ?_
      refine lv_iload_n hx hb dX10_arrange_37 rfl (lv_at hl 1 rfl) ?_
      obtain ⟨g_38, h⟩ := g_guard h
      refine g_iald F hI (by decide) mE_a5 0 rfl g_38 dX10_arrange_38 ?_
      refine lv_istore_n (lv' := [(3, .int (g_ga ((f_X10_asked__ σ (f_X10_isClass x1) (f_X10_in x2 0 9999) w0_25).2) 5 x1)), (0, .ref (a 0)), (1, .int x1), (2, .int x2)]) hx hb dX10_arrange_39 rfl hl (by decide) rfl (fun ls hl => ?_)
      refine lv_iload_n hx hb dX10_arrange_40 rfl (lv_at hl 0 rfl) ?_
      refine lv_iconst (v := 4) hx hb dX10_arrange_41 (by decide) ?_
      obtain ⟨j74, hj74, h⟩ := gJoin1_in h
      have J74 : ∀ (w0_74 : Int32) (H : Heap) (locs : List Loc) (ls : Array Slot), j74 w0_74 = some out → g_S 21 D a (mE a cI cZ ((f_X10_asked__ σ (f_X10_isClass x1) (f_X10_in x2 0 9999) w0_25).2)) s.heap H locs → lv_has ls 13 [(0, .ref (a 0)), (1, .int x1), (2, .int x2), (3, .int (g_ga ((f_X10_asked__ σ (f_X10_isClass x1) (f_X10_in x2 0 9999) w0_25).2) 5 x1))] → W p l e rmX10_arrange s m args below meth c H locs 0 0 Q (F0 m 74 ls [.int w0_74]) := by
        intro w0_74 H locs ls h hI hl
        rw [hj74] at h
        refine lv_istore (lv' := [(4, .int w0_74), (0, .ref (a 0)), (1, .int x1), (2, .int x2), (3, .int (g_ga ((f_X10_asked__ σ (f_X10_isClass x1) (f_X10_in x2 0 9999) w0_25).2) 5 x1))]) hx hb dX10_arrange_74 hl (by decide) rfl (fun ls hl => ?_)
        refine lv_ldc (v := 1000000000) hx hb F.1.2.2.2.1 (F.1.2.2.2.2 _ kk_X10_127) dX10_arrange_76 ?_
        refine lv_istore (lv' := [(5, .int 1000000000), (4, .int w0_74), (0, .ref (a 0)), (1, .int x1), (2, .int x2), (3, .int (g_ga ((f_X10_asked__ σ (f_X10_isClass x1) (f_X10_in x2 0 9999) w0_25).2) 5 x1))]) hx hb dX10_arrange_78 hl (by decide) rfl (fun ls hl => ?_)
        refine lv_ldc (v := 1000000000) hx hb F.1.2.2.2.1 (F.1.2.2.2.2 _ kk_X10_127) dX10_arrange_80 ?_
        refine lv_istore (lv' := [(6, .int 1000000000), (5, .int 1000000000), (4, .int w0_74), (0, .ref (a 0)), (1, .int x1), (2, .int x2), (3, .int (g_ga ((f_X10_asked__ σ (f_X10_isClass x1) (f_X10_in x2 0 9999) w0_25).2) 5 x1))]) hx hb dX10_arrange_82 hl (by decide) rfl (fun ls hl => ?_)
        refine lv_iconst (v := 0) hx hb dX10_arrange_84 (by decide) ?_
        refine lv_istore (lv' := [(7, .int 0), (6, .int 1000000000), (5, .int 1000000000), (4, .int w0_74), (0, .ref (a 0)), (1, .int x1), (2, .int x2), (3, .int (g_ga ((f_X10_asked__ σ (f_X10_isClass x1) (f_X10_in x2 0 9999) w0_25).2) 5 x1))]) hx hb dX10_arrange_85 hl (by decide) rfl (fun ls hl => ?_)
        obtain ⟨lp87, hz87, hs87, h⟩ := gLoop4_in h
        have L87 : ∀ (n : Nat) (v5_87 : Int32) (v6_87 : Int32) (v7_87 : Int32) (s_87 : gSt) (H : Heap) (locs : List Loc) (ls : Array Slot), lp87 n v5_87 v6_87 v7_87 s_87 = some out → g_S 21 D a (mE a cI cZ s_87) s.heap H locs → lv_has ls 13 [(0, .ref (a 0)), (1, .int x1), (2, .int x2), (3, .int (g_ga ((f_X10_asked__ σ (f_X10_isClass x1) (f_X10_in x2 0 9999) w0_25).2) 5 x1)), (4, .int w0_74), (5, .int v5_87), (6, .int v6_87), (7, .int v7_87)] → W p l e rmX10_arrange s m args below meth c H locs 0 0 Q (F0 m 87 ls []) := by
          intro n
          induction n with
          | zero => intro v5_87 v6_87 v7_87 s_87 H locs ls h; rw [hz87] at h; cases h
          | succ n ih87 =>
            intro v5_87 v6_87 v7_87 s_87 H locs ls h hI hl
            rw [hs87] at h
            refine lv_iload hx hb dX10_arrange_87 (lv_at hl 7 rfl) ?_
            refine lv_iload hx hb dX10_arrange_89 (lv_at hl 4 rfl) ?_
            refine lv_icmp_ge (tgt := 271) hx hb dX10_arrange_91 (by decide) (fun c_91 => ?_) (fun c_91 => ?_)
            · have h := (if_pos c_91).symm.trans h
              refine lv_iconst (v := 0) hx hb dX10_arrange_271 (by decide) ?_
              refine lv_istore (lv' := [(7, .int 0), (0, .ref (a 0)), (1, .int x1), (2, .int x2), (3, .int (g_ga ((f_X10_asked__ σ (f_X10_isClass x1) (f_X10_in x2 0 9999) w0_25).2) 5 x1)), (4, .int w0_74), (5, .int v5_87), (6, .int v6_87)]) hx hb dX10_arrange_272 hl (by decide) rfl (fun ls hl => ?_)
              obtain ⟨lp274, hz274, hs274, h⟩ := gLoop2_in h
              have L274 : ∀ (n : Nat) (v7_274 : Int32) (s_274 : gSt) (H : Heap) (locs : List Loc) (ls : Array Slot), lp274 n v7_274 s_274 = some out → g_S 21 D a (mE a cI cZ s_274) s.heap H locs → lv_has ls 13 [(0, .ref (a 0)), (1, .int x1), (3, .int (g_ga ((f_X10_asked__ σ (f_X10_isClass x1) (f_X10_in x2 0 9999) w0_25).2) 5 x1)), (5, .int v5_87), (7, .int v7_274)] → W p l e rmX10_arrange s m args below meth c H locs 0 0 Q (F0 m 274 ls []) := by
                intro n
                induction n with
                | zero => intro v7_274 s_274 H locs ls h; rw [hz274] at h; cases h
                | succ n ih274 =>
                  intro v7_274 s_274 H locs ls h hI hl
                  rw [hs274] at h
                  refine lv_iload hx hb dX10_arrange_274 (lv_at hl 4 rfl) ?_
                  refine lv_iload_n hx hb dX10_arrange_276 rfl (lv_at hl 2 rfl) ?_
                  obtain ⟨j312, hj312, h⟩ := gJoin0_in h
                  have J312 : ∀ (H : Heap) (locs : List Loc) (ls : Array Slot), j312  = some out → g_S 21 D a (mE a cI cZ s_274) s.heap H locs → lv_has ls 13 [(0, .ref (a 0)), (1, .int x1)] → W p l e rmX10_arrange s m args below meth c H locs 0 0 Q (F0 m 312 ls []) := by
                    intro  H locs ls h hI hl
                    rw [hj312] at h
                    refine lv_aload_n hx hb dX10_arrange_312 rfl (lv_at hl 0 rfl) ?_
                    refine lv_iload_n hx hb dX10_arrange_313 rfl (lv_at hl 1 rfl) ?_
                    refine lv_iconst (v := 1) hx hb dX10_arrange_314 (by decide) ?_
                    obtain ⟨q_315, e_315, h⟩ := gBind_in h
                    refine g_callVi (E' := mE a cI cZ q_315.2) (k0 := 0) (As := [.int x1, .int 1]) (rest := []) F hI (c_X10_sumOfCourse l D a cI cZ F.2.2 N s_274 x1 1 q_315 e_315) kb_X10_sumOfCourse ki_X10_sumOfCourse ks_X10_sumOfCourse km_X10_168 ⟨Nat.le_of_ble_eq_true rfl, Nat.le_of_ble_eq_true rfl, rfl, rfl⟩ (by decide) mE_0 rfl hl.1 rfl (Nat.le_of_ble_eq_true rfl) ⟨Nat.zero_le _, Nat.zero_le _⟩ dX10_arrange_315 (fun H locs hI => ?_)
                    have h := Option.some.inj h
                    subst h
                    exact hq _ _ _ _ hI dX10_arrange_318
                  refine lv_icmp_ge (tgt := 312) hx hb dX10_arrange_277 (by decide) (fun c_277 => ?_) (fun c_277 => ?_)
                  · have h := (if_pos c_277).symm.trans h
                    exact J312 _ _ _ h hI (lv_sub hl [0, 1] rfl)
                  · have h := (if_neg c_277).symm.trans h
                    refine lv_iload hx hb dX10_arrange_280 (lv_at hl 3 rfl) ?_
                    refine lv_ldc (v := 1000000000) hx hb F.1.2.2.2.1 (F.1.2.2.2.2 _ kk_X10_127) dX10_arrange_282 ?_
                    refine lv_icmp_ge (tgt := 312) hx hb dX10_arrange_284 (by decide) (fun c_284 => ?_) (fun c_284 => ?_)
                    · have h := (if_pos c_284).symm.trans h
                      exact J312 _ _ _ h hI (lv_sub hl [0, 1] rfl)
                    · have h := (if_neg c_284).symm.trans h
                      refine lv_aload_n hx hb dX10_arrange_287 rfl (lv_at hl 0 rfl) ?_
                      refine g_get F hI (by decide) mE_0 rfl ku_X10 7 (by decide) kf_X10_23 rfl dX10_arrange_288 ?_
                      refine lv_bipush (v := 6) hx hb dX10_arrange_291 (by decide) ?_
                      refine lv_iload_n hx hb dX10_arrange_293 rfl (lv_at hl 1 rfl) ?_
                      refine lv_imul hx hb dX10_arrange_294 ?_
                      refine lv_iload hx hb dX10_arrange_295 (lv_at hl 4 rfl) ?_
                      refine lv_iadd hx hb dX10_arrange_297 ?_
                      refine lv_aload_n hx hb dX10_arrange_298 rfl (lv_at hl 0 rfl) ?_
                      refine g_get F hI (by decide) mE_0 rfl ku_X10 25 (by decide) kf_X10_68 rfl dX10_arrange_299 ?_
                      refine lv_iload hx hb dX10_arrange_302 (lv_at hl 4 rfl) ?_
                      obtain ⟨g_304, h⟩ := g_guard h
                      refine g_iald F hI (by decide) mE_a19 0 rfl g_304 dX10_arrange_304 ?_
                      obtain ⟨g_305, h⟩ := g_guard h
                      refine g_iast (E' := mE a cI cZ (g_pa s_274 4 ((6 * x1) + v7_274) (g_ga s_274 19 v7_274))) F hI (by decide) mE_a4 0 rfl g_305 rfl mE_sa dX10_arrange_305 (fun H locs hI => ?_)
                      refine lv_iinc (v := v7_274 + 1) (lv' := [(7, .int (v7_274 + 1)), (0, .ref (a 0)), (1, .int x1), (3, .int (g_ga ((f_X10_asked__ σ (f_X10_isClass x1) (f_X10_in x2 0 9999) w0_25).2) 5 x1)), (5, .int v5_87)]) hx hb dX10_arrange_306 hl (k := 4) rfl rfl (by decide) rfl (fun ls hl => ?_)
                      refine lv_goto (tgt := 274) hx hb dX10_arrange_309 (by decide) ?_
                      exact ih274 _ _ _ _ _ h hI (lv_sub hl [1, 2, 3, 4, 0] rfl)
              exact L274 _ _ _ _ _ _ h hI (lv_sub hl [1, 2, 4, 6, 0] rfl)
            · have h := (if_neg c_91).symm.trans h
              refine lv_aload_n hx hb dX10_arrange_94 rfl (lv_at hl 0 rfl) ?_
              refine lv_iload_n hx hb dX10_arrange_95 rfl (lv_at hl 1 rfl) ?_
              refine lv_iload hx hb dX10_arrange_96 (lv_at hl 7 rfl) ?_
              obtain ⟨q_98, e_98, h⟩ := gBind_in h
              refine g_callVi (E' := mE a cI cZ q_98.2) (k0 := 0) (As := [.int x1, .int v7_87]) (rest := []) F hI (c_X10_lays l D a cI cZ F.2.2 N s_87 x1 v7_87 q_98 e_98) kb_X10_lays ki_X10_lays ks_X10_lays km_X10_162 ⟨Nat.le_of_ble_eq_true rfl, Nat.le_of_ble_eq_true rfl, rfl, rfl⟩ (by decide) mE_0 rfl hl.1 rfl (Nat.le_of_ble_eq_true rfl) ⟨Nat.zero_le _, Nat.zero_le _⟩ dX10_arrange_98 (fun H locs hI => ?_)
              obtain ⟨j114, hj114, h⟩ := gJoin2_in h
              have J114 : ∀ (w0_114 : Int32) (s_114 : gSt) (H : Heap) (locs : List Loc) (ls : Array Slot), j114 w0_114 s_114 = some out → g_S 21 D a (mE a cI cZ s_114) s.heap H locs → lv_has ls 13 [(0, .ref (a 0)), (1, .int x1), (2, .int x2), (3, .int (g_ga ((f_X10_asked__ σ (f_X10_isClass x1) (f_X10_in x2 0 9999) w0_25).2) 5 x1)), (4, .int w0_74), (5, .int v5_87), (6, .int v6_87), (7, .int v7_87)] → W p l e rmX10_arrange s m args below meth c H locs 0 0 Q (F0 m 114 ls [.int w0_114]) := by
                intro w0_114 s_114 H locs ls h hI hl
                rw [hj114] at h
                refine lv_istore (lv' := [(8, .int w0_114), (0, .ref (a 0)), (1, .int x1), (2, .int x2), (3, .int (g_ga ((f_X10_asked__ σ (f_X10_isClass x1) (f_X10_in x2 0 9999) w0_25).2) 5 x1)), (4, .int w0_74), (5, .int v5_87), (6, .int v6_87), (7, .int v7_87)]) hx hb dX10_arrange_114 hl (by decide) rfl (fun ls hl => ?_)
                refine lv_iload hx hb dX10_arrange_116 (lv_at hl 0 rfl) ?_
                refine lv_iconst (v := -1) hx hb dX10_arrange_118 (by decide) ?_
                obtain ⟨j133, hj133, h⟩ := gJoin2_in h
                have J133 : ∀ (w0_133 : Int32) (s_133 : gSt) (H : Heap) (locs : List Loc) (ls : Array Slot), j133 w0_133 s_133 = some out → g_S 21 D a (mE a cI cZ s_133) s.heap H locs → lv_has ls 13 [(0, .ref (a 0)), (1, .int x1), (2, .int x2), (3, .int (g_ga ((f_X10_asked__ σ (f_X10_isClass x1) (f_X10_in x2 0 9999) w0_25).2) 5 x1)), (4, .int w0_74), (5, .int v5_87), (6, .int v6_87), (7, .int v7_87), (8, .int w0_114)] → W p l e rmX10_arrange s m args below meth c H locs 0 0 Q (F0 m 133 ls [.int w0_133]) := by
                  intro w0_133 s_133 H locs ls h hI hl
                  rw [hj133] at h
                  refine lv_istore (lv' := [(9, .int w0_133), (0, .ref (a 0)), (1, .int x1), (2, .int x2), (3, .int (g_ga ((f_X10_asked__ σ (f_X10_isClass x1) (f_X10_in x2 0 9999) w0_25).2) 5 x1)), (4, .int w0_74), (5, .int v5_87), (6, .int v6_87), (7, .int v7_87), (8, .int w0_114)]) hx hb dX10_arrange_133 hl (by decide) rfl (fun ls hl => ?_)
                  refine lv_iload hx hb dX10_arrange_135 (lv_at hl 9 rfl) ?_
                  refine lv_iconst (v := -1) hx hb dX10_arrange_137 (by decide) ?_
                  obtain ⟨j152, hj152, h⟩ := gJoin1_in h
                  have J152 : ∀ (w0_152 : Int32) (H : Heap) (locs : List Loc) (ls : Array Slot), j152 w0_152 = some out → g_S 21 D a (mE a cI cZ s_133) s.heap H locs → lv_has ls 13 [(0, .ref (a 0)), (1, .int x1), (2, .int x2), (3, .int (g_ga ((f_X10_asked__ σ (f_X10_isClass x1) (f_X10_in x2 0 9999) w0_25).2) 5 x1)), (4, .int w0_74), (5, .int v5_87), (6, .int v6_87), (7, .int v7_87), (8, .int w0_114), (9, .int w0_133)] → W p l e rmX10_arrange s m args below meth c H locs 0 0 Q (F0 m 152 ls [.int w0_152]) := by
                    intro w0_152 H locs ls h hI hl
                    rw [hj152] at h
                    refine lv_istore (lv' := [(10, .int w0_152), (0, .ref (a 0)), (1, .int x1), (2, .int x2), (3, .int (g_ga ((f_X10_asked__ σ (f_X10_isClass x1) (f_X10_in x2 0 9999) w0_25).2) 5 x1)), (4, .int w0_74), (5, .int v5_87), (6, .int v6_87), (7, .int v7_87), (8, .int w0_114), (9, .int w0_133)]) hx hb dX10_arrange_152 hl (by decide) rfl (fun ls hl => ?_)
                    refine lv_iload hx hb dX10_arrange_154 (lv_at hl 9 rfl) ?_
                    refine lv_iconst (v := -1) hx hb dX10_arrange_156 (by decide) ?_
                    obtain ⟨j201, hj201, h⟩ := gJoin1_in h
                    have J201 : ∀ (w0_201 : Int32) (H : Heap) (locs : List Loc) (ls : Array Slot), j201 w0_201 = some out → g_S 21 D a (mE a cI cZ s_133) s.heap H locs → lv_has ls 13 [(0, .ref (a 0)), (1, .int x1), (2, .int x2), (3, .int (g_ga ((f_X10_asked__ σ (f_X10_isClass x1) (f_X10_in x2 0 9999) w0_25).2) 5 x1)), (4, .int w0_74), (5, .int v5_87), (6, .int v6_87), (7, .int v7_87), (9, .int w0_133), (10, .int w0_152)] → W p l e rmX10_arrange s m args below meth c H locs 0 0 Q (F0 m 201 ls [.int w0_201]) := by
                      intro w0_201 H locs ls h hI hl
                      rw [hj201] at h
                      refine lv_istore (lv' := [(11, .int w0_201), (0, .ref (a 0)), (1, .int x1), (2, .int x2), (3, .int (g_ga ((f_X10_asked__ σ (f_X10_isClass x1) (f_X10_in x2 0 9999) w0_25).2) 5 x1)), (4, .int w0_74), (5, .int v5_87), (6, .int v6_87), (7, .int v7_87), (9, .int w0_133), (10, .int w0_152)]) hx hb dX10_arrange_201 hl (by decide) rfl (fun ls hl => ?_)
                      refine lv_iconst (v := 0) hx hb dX10_arrange_203 (by decide) ?_
                      refine lv_istore (lv' := [(12, .int 0), (11, .int w0_201), (0, .ref (a 0)), (1, .int x1), (2, .int x2), (3, .int (g_ga ((f_X10_asked__ σ (f_X10_isClass x1) (f_X10_in x2 0 9999) w0_25).2) 5 x1)), (4, .int w0_74), (5, .int v5_87), (6, .int v6_87), (7, .int v7_87), (9, .int w0_133), (10, .int w0_152)]) hx hb dX10_arrange_204 hl (by decide) rfl (fun ls hl => ?_)
                      obtain ⟨lp206, hz206, hs206, h⟩ := gLoop2_in h
                      have L206 : ∀ (n : Nat) (v12_206 : Int32) (s_206 : gSt) (H : Heap) (locs : List Loc) (ls : Array Slot), lp206 n v12_206 s_206 = some out → g_S 21 D a (mE a cI cZ s_206) s.heap H locs → lv_has ls 13 [(0, .ref (a 0)), (1, .int x1), (2, .int x2), (3, .int (g_ga ((f_X10_asked__ σ (f_X10_isClass x1) (f_X10_in x2 0 9999) w0_25).2) 5 x1)), (4, .int w0_74), (5, .int v5_87), (6, .int v6_87), (7, .int v7_87), (9, .int w0_133), (10, .int w0_152), (11, .int w0_201), (12, .int v12_206)] → W p l e rmX10_arrange s m args below meth c H locs 0 0 Q (F0 m 206 ls []) := by
                        intro n
                        induction n with
                        | zero => intro v12_206 s_206 H locs ls h; rw [hz206] at h; cases h
                        | succ n ih206 =>
                          intro v12_206 s_206 H locs ls h hI hl
                          rw [hs206] at h
                          refine lv_iload hx hb dX10_arrange_206 (lv_at hl 11 rfl) ?_
                          refine lv_iload_n hx hb dX10_arrange_208 rfl (lv_at hl 3 rfl) ?_
                          obtain ⟨j237, hj237, h⟩ := gJoin0_in h
                          have J237 : ∀ (H : Heap) (locs : List Loc) (ls : Array Slot), j237  = some out → g_S 21 D a (mE a cI cZ s_206) s.heap H locs → lv_has ls 13 [(0, .ref (a 0)), (1, .int x1), (2, .int x2), (3, .int (g_ga ((f_X10_asked__ σ (f_X10_isClass x1) (f_X10_in x2 0 9999) w0_25).2) 5 x1)), (4, .int w0_74), (5, .int v5_87), (6, .int v6_87), (7, .int v7_87), (9, .int w0_133), (10, .int w0_152), (11, .int w0_201)] → W p l e rmX10_arrange s m args below meth c H locs 0 0 Q (F0 m 237 ls []) := by
                            intro  H locs ls h hI hl
                            rw [hj237] at h
                            refine lv_iload hx hb dX10_arrange_237 (lv_at hl 10 rfl) ?_
                            obtain ⟨j249, hj249, h⟩ := gJoin1_in h
                            have J249 : ∀ (w0_249 : Int32) (H : Heap) (locs : List Loc) (ls : Array Slot), j249 w0_249 = some out → g_S 21 D a (mE a cI cZ s_206) s.heap H locs → lv_has ls 13 [(0, .ref (a 0)), (1, .int x1), (2, .int x2), (3, .int (g_ga ((f_X10_asked__ σ (f_X10_isClass x1) (f_X10_in x2 0 9999) w0_25).2) 5 x1)), (4, .int w0_74), (6, .int v6_87), (7, .int v7_87), (9, .int w0_133), (11, .int w0_201)] → W p l e rmX10_arrange s m args below meth c H locs 0 0 Q (F0 m 249 ls [.int w0_249]) := by
                              intro w0_249 H locs ls h hI hl
                              rw [hj249] at h
                              refine lv_istore (lv' := [(5, .int w0_249), (0, .ref (a 0)), (1, .int x1), (2, .int x2), (3, .int (g_ga ((f_X10_asked__ σ (f_X10_isClass x1) (f_X10_in x2 0 9999) w0_25).2) 5 x1)), (4, .int w0_74), (6, .int v6_87), (7, .int v7_87), (9, .int w0_133), (11, .int w0_201)]) hx hb dX10_arrange_249 hl (by decide) rfl (fun ls hl => ?_)
                              refine lv_iload hx hb dX10_arrange_251 (lv_at hl 9 rfl) ?_
                              obtain ⟨j263, hj263, h⟩ := gJoin1_in h
                              have J263 : ∀ (w0_263 : Int32) (H : Heap) (locs : List Loc) (ls : Array Slot), j263 w0_263 = some out → g_S 21 D a (mE a cI cZ s_206) s.heap H locs → lv_has ls 13 [(0, .ref (a 0)), (1, .int x1), (2, .int x2), (3, .int (g_ga ((f_X10_asked__ σ (f_X10_isClass x1) (f_X10_in x2 0 9999) w0_25).2) 5 x1)), (4, .int w0_74), (5, .int w0_249), (7, .int v7_87)] → W p l e rmX10_arrange s m args below meth c H locs 0 0 Q (F0 m 263 ls [.int w0_263]) := by
                                intro w0_263 H locs ls h hI hl
                                rw [hj263] at h
                                refine lv_istore (lv' := [(6, .int w0_263), (0, .ref (a 0)), (1, .int x1), (2, .int x2), (3, .int (g_ga ((f_X10_asked__ σ (f_X10_isClass x1) (f_X10_in x2 0 9999) w0_25).2) 5 x1)), (4, .int w0_74), (5, .int w0_249), (7, .int v7_87)]) hx hb dX10_arrange_263 hl (by decide) rfl (fun ls hl => ?_)
                                refine lv_iinc (v := v7_87 + 1) (lv' := [(7, .int (v7_87 + 1)), (6, .int w0_263), (0, .ref (a 0)), (1, .int x1), (2, .int x2), (3, .int (g_ga ((f_X10_asked__ σ (f_X10_isClass x1) (f_X10_in x2 0 9999) w0_25).2) 5 x1)), (4, .int w0_74), (5, .int w0_249)]) hx hb dX10_arrange_265 hl (k := 7) rfl rfl (by decide) rfl (fun ls hl => ?_)
                                refine lv_goto (tgt := 87) hx hb dX10_arrange_268 (by decide) ?_
                                exact ih87 _ _ _ _ _ _ _ h hI (lv_sub hl [2, 3, 4, 5, 6, 7, 1, 0] rfl)
                              refine lv_if_eq (tgt := 261) hx hb dX10_arrange_253 (by decide) (fun c_253 => ?_) (fun c_253 => ?_)
                              · have h := (if_pos c_253).symm.trans h
                                refine lv_iload hx hb dX10_arrange_261 (lv_at hl 6 rfl) ?_
                                exact J263 _ _ _ _ h hI (lv_sub hl [1, 2, 3, 4, 5, 0, 7] rfl)
                              · have h := (if_neg c_253).symm.trans h
                                refine lv_iload hx hb dX10_arrange_256 (lv_at hl 8 rfl) ?_
                                refine lv_goto (tgt := 263) hx hb dX10_arrange_258 (by decide) ?_
                                exact J263 _ _ _ _ h hI (lv_sub hl [1, 2, 3, 4, 5, 0, 7] rfl)
                            refine lv_if_eq (tgt := 247) hx hb dX10_arrange_239 (by decide) (fun c_239 => ?_) (fun c_239 => ?_)
                            · have h := (if_pos c_239).symm.trans h
                              refine lv_iload hx hb dX10_arrange_247 (lv_at hl 5 rfl) ?_
                              exact J249 _ _ _ _ h hI (lv_sub hl [0, 1, 2, 3, 4, 6, 7, 8, 10] rfl)
                            · have h := (if_neg c_239).symm.trans h
                              refine lv_iload hx hb dX10_arrange_242 (lv_at hl 9 rfl) ?_
                              refine lv_goto (tgt := 249) hx hb dX10_arrange_244 (by decide) ?_
                              exact J249 _ _ _ _ h hI (lv_sub hl [0, 1, 2, 3, 4, 6, 7, 8, 10] rfl)
                          refine lv_icmp_ge (tgt := 237) hx hb dX10_arrange_209 (by decide) (fun c_209 => ?_) (fun c_209 => ?_)
                          · have h := (if_pos c_209).symm.trans h
                            exact J237 _ _ _ h hI (lv_sub hl [0, 1, 2, 3, 4, 5, 6, 7, 8, 9, 10] rfl)
                          · have h := (if_neg c_209).symm.trans h
                            refine lv_iload hx hb dX10_arrange_212 (lv_at hl 10 rfl) ?_
                            refine lv_if_eq (tgt := 237) hx hb dX10_arrange_214 (by decide) (fun c_214 => ?_) (fun c_214 => ?_)
                            · have h := (if_pos c_214).symm.trans h
                              exact J237 _ _ _ h hI (lv_sub hl [0, 1, 2, 3, 4, 5, 6, 7, 8, 9, 10] rfl)
                            · have h := (if_neg c_214).symm.trans h
                              refine lv_aload_n hx hb dX10_arrange_217 rfl (lv_at hl 0 rfl) ?_
                              refine g_get F hI (by decide) mE_0 rfl ku_X10 25 (by decide) kf_X10_68 rfl dX10_arrange_218 ?_
                              refine lv_iload hx hb dX10_arrange_221 (lv_at hl 11 rfl) ?_
                              refine lv_aload_n hx hb dX10_arrange_223 rfl (lv_at hl 0 rfl) ?_
                              refine g_get F hI (by decide) mE_0 rfl ku_X10 24 (by decide) kf_X10_65 rfl dX10_arrange_224 ?_
                              refine lv_iload hx hb dX10_arrange_227 (lv_at hl 11 rfl) ?_
                              obtain ⟨g_229, h⟩ := g_guard h
                              refine g_iald F hI (by decide) mE_a18 0 rfl g_229 dX10_arrange_229 ?_
                              obtain ⟨g_230, h⟩ := g_guard h
                              refine g_iast (E' := mE a cI cZ (g_pa s_206 19 v12_206 (g_ga s_206 18 v12_206))) F hI (by decide) mE_a19 0 rfl g_230 rfl mE_sa dX10_arrange_230 (fun H locs hI => ?_)
                              refine lv_iinc (v := v12_206 + 1) (lv' := [(12, .int (v12_206 + 1)), (0, .ref (a 0)), (1, .int x1), (2, .int x2), (3, .int (g_ga ((f_X10_asked__ σ (f_X10_isClass x1) (f_X10_in x2 0 9999) w0_25).2) 5 x1)), (4, .int w0_74), (5, .int v5_87), (6, .int v6_87), (7, .int v7_87), (9, .int w0_133), (10, .int w0_152), (11, .int w0_201)]) hx hb dX10_arrange_231 hl (k := 11) rfl rfl (by decide) rfl (fun ls hl => ?_)
                              refine lv_goto (tgt := 206) hx hb dX10_arrange_234 (by decide) ?_
                              exact ih206 _ _ _ _ _ h hI (lv_sub hl [1, 2, 3, 4, 5, 6, 7, 8, 9, 10, 11, 0] rfl)
                      exact L206 _ _ _ _ _ _ h hI (lv_sub hl [2, 3, 4, 5, 6, 7, 8, 9, 10, 11, 1, 0] rfl)
                    obtain ⟨j200, hj200, h⟩ := gJoin0_in h
                    have J200 : ∀ (H : Heap) (locs : List Loc) (ls : Array Slot), j200  = some out → g_S 21 D a (mE a cI cZ s_133) s.heap H locs → lv_has ls 13 [(0, .ref (a 0)), (1, .int x1), (2, .int x2), (3, .int (g_ga ((f_X10_asked__ σ (f_X10_isClass x1) (f_X10_in x2 0 9999) w0_25).2) 5 x1)), (4, .int w0_74), (5, .int v5_87), (6, .int v6_87), (7, .int v7_87), (9, .int w0_133), (10, .int w0_152)] → W p l e rmX10_arrange s m args below meth c H locs 0 0 Q (F0 m 200 ls []) := by
                      intro  H locs ls h hI hl
                      rw [hj200] at h
                      refine lv_iconst (v := 0) hx hb dX10_arrange_200 (by decide) ?_
                      exact J201 _ _ _ _ h hI (lv_sub hl [0, 1, 2, 3, 4, 5, 6, 7, 8, 9] rfl)
                    refine lv_icmp_eq (tgt := 200) hx hb dX10_arrange_157 (by decide) (fun c_157 => ?_) (fun c_157 => ?_)
                    · have h := (if_pos c_157).symm.trans h
                      exact J200 _ _ _ h hI (lv_sub hl [1, 2, 3, 4, 5, 6, 7, 8, 10, 0] rfl)
                    · have h := (if_neg c_157).symm.trans h
                      refine lv_iload hx hb dX10_arrange_160 (lv_at hl 0 rfl) ?_
                      refine lv_iload hx hb dX10_arrange_162 (lv_at hl 6 rfl) ?_
                      obtain ⟨j196, hj196, h⟩ := gJoin0_in h
                      have J196 : ∀ (H : Heap) (locs : List Loc) (ls : Array Slot), j196  = some out → g_S 21 D a (mE a cI cZ s_133) s.heap H locs → lv_has ls 13 [(0, .ref (a 0)), (1, .int x1), (2, .int x2), (3, .int (g_ga ((f_X10_asked__ σ (f_X10_isClass x1) (f_X10_in x2 0 9999) w0_25).2) 5 x1)), (4, .int w0_74), (5, .int v5_87), (6, .int v6_87), (7, .int v7_87), (9, .int w0_133), (10, .int w0_152)] → W p l e rmX10_arrange s m args below meth c H locs 0 0 Q (F0 m 196 ls []) := by
                        intro  H locs ls h hI hl
                        rw [hj196] at h
                        refine lv_iconst (v := 1) hx hb dX10_arrange_196 (by decide) ?_
                        refine lv_goto (tgt := 201) hx hb dX10_arrange_197 (by decide) ?_
                        exact J201 _ _ _ _ h hI (lv_sub hl [0, 1, 2, 3, 4, 5, 6, 7, 8, 9] rfl)
                      refine lv_icmp_lt (tgt := 196) hx hb dX10_arrange_164 (by decide) (fun c_164 => ?_) (fun c_164 => ?_)
                      · have h := (if_pos c_164).symm.trans h
                        exact J196 _ _ _ h hI (lv_sub hl [1, 2, 3, 4, 5, 6, 7, 8, 10, 0] rfl)
                      · have h := (if_neg c_164).symm.trans h
                        refine lv_iload hx hb dX10_arrange_167 (lv_at hl 0 rfl) ?_
                        refine lv_iload hx hb dX10_arrange_169 (lv_at hl 6 rfl) ?_
                        refine lv_icmp_ne (tgt := 200) hx hb dX10_arrange_171 (by decide) (fun c_171 => ?_) (fun c_171 => ?_)
                        · have h := (if_neg c_171).symm.trans h
                          exact J200 _ _ _ h hI (lv_sub hl [1, 2, 3, 4, 5, 6, 7, 8, 10, 0] rfl)
                        · have h := (if_pos c_171).symm.trans h
                          refine lv_iload hx hb dX10_arrange_174 (lv_at hl 10 rfl) ?_
                          refine lv_iload hx hb dX10_arrange_176 (lv_at hl 7 rfl) ?_
                          refine lv_icmp_lt (tgt := 196) hx hb dX10_arrange_178 (by decide) (fun c_178 => ?_) (fun c_178 => ?_)
                          · have h := (if_pos c_178).symm.trans h
                            exact J196 _ _ _ h hI (lv_sub hl [1, 2, 3, 4, 5, 6, 7, 8, 10, 0] rfl)
                          · have h := (if_neg c_178).symm.trans h
                            refine lv_iload hx hb dX10_arrange_181 (lv_at hl 10 rfl) ?_
                            refine lv_iload hx hb dX10_arrange_183 (lv_at hl 7 rfl) ?_
                            refine lv_icmp_ne (tgt := 200) hx hb dX10_arrange_185 (by decide) (fun c_185 => ?_) (fun c_185 => ?_)
                            · have h := (if_neg c_185).symm.trans h
                              exact J200 _ _ _ h hI (lv_sub hl [1, 2, 3, 4, 5, 6, 7, 8, 10, 0] rfl)
                            · have h := (if_pos c_185).symm.trans h
                              refine lv_aload_n hx hb dX10_arrange_188 rfl (lv_at hl 1 rfl) ?_
                              refine lv_iload_n hx hb dX10_arrange_189 rfl (lv_at hl 4 rfl) ?_
                              obtain ⟨r_190, e_190, h⟩ := gBind_in h
                              refine g_callVi (E' := mE a cI cZ s_133) (k0 := 0) (As := [.int (g_ga ((f_X10_asked__ σ (f_X10_isClass x1) (f_X10_in x2 0 9999) w0_25).2) 5 x1)]) (rest := []) F hI (c_X10_isLess l D a cI cZ F.2.2 N s_133 (g_ga ((f_X10_asked__ σ (f_X10_isClass x1) (f_X10_in x2 0 9999) w0_25).2) 5 x1) r_190 e_190) kb_X10_isLess ki_X10_isLess ks_X10_isLess km_X10_165 ⟨Nat.le_of_ble_eq_true rfl, Nat.le_of_ble_eq_true rfl, rfl, rfl⟩ (by decide) mE_0 rfl hl.1 rfl (Nat.le_of_ble_eq_true rfl) ⟨Nat.zero_le _, Nat.zero_le _⟩ dX10_arrange_190 (fun H locs hI => ?_)
                              refine lv_if_eq (tgt := 200) hx hb dX10_arrange_193 (by decide) (fun c_193 => ?_) (fun c_193 => ?_)
                              · have h := (if_pos c_193).symm.trans h
                                exact J200 _ _ _ h hI (lv_sub hl [1, 2, 3, 4, 5, 6, 7, 8, 10, 0] rfl)
                              · have h := (if_neg c_193).symm.trans h
                                exact J196 _ _ _ h hI (lv_sub hl [1, 2, 3, 4, 5, 6, 7, 8, 10, 0] rfl)
                  refine lv_icmp_ne (tgt := 146) hx hb dX10_arrange_138 (by decide) (fun c_138 => ?_) (fun c_138 => ?_)
                  · have h := (if_neg c_138).symm.trans h
                    refine lv_iload hx hb dX10_arrange_146 (lv_at hl 9 rfl) ?_
                    refine lv_iload_n hx hb dX10_arrange_148 rfl (lv_at hl 3 rfl) ?_
                    refine g_callSi (E' := mE a cI cZ s_133) (As := [.int w0_114, .int x2]) (rest := []) F hI (c_X10_apart l D a cI cZ F.2.2 s_133 w0_114 x2) kb_X10_apart kt_X10_apart km_X10_99 ⟨Nat.le_of_ble_eq_true rfl, Nat.le_of_ble_eq_true rfl, rfl, rfl⟩ hl.1 rfl (Nat.le_of_ble_eq_true rfl) ⟨Nat.zero_le _, Nat.zero_le _⟩ dX10_arrange_149 (fun H locs hI => ?_)
                    exact J152 _ _ _ _ h hI (lv_sub hl [1, 2, 3, 4, 5, 6, 7, 8, 9, 0] rfl)
                  · have h := (if_pos c_138).symm.trans h
                    refine lv_ldc (v := 1000000000) hx hb F.1.2.2.2.1 (F.1.2.2.2.2 _ kk_X10_127) dX10_arrange_141 ?_
                    refine lv_goto (tgt := 152) hx hb dX10_arrange_143 (by decide) ?_
                    exact J152 _ _ _ _ h hI (lv_sub hl [1, 2, 3, 4, 5, 6, 7, 8, 9, 0] rfl)
                refine lv_icmp_ne (tgt := 127) hx hb dX10_arrange_119 (by decide) (fun c_119 => ?_) (fun c_119 => ?_)
                · have h := (if_neg c_119).symm.trans h
                  refine lv_aload_n hx hb dX10_arrange_127 rfl (lv_at hl 1 rfl) ?_
                  refine lv_iload_n hx hb dX10_arrange_128 rfl (lv_at hl 4 rfl) ?_
                  refine lv_iconst (v := 0) hx hb dX10_arrange_129 (by decide) ?_
                  obtain ⟨q_130, e_130, h⟩ := gBind_in h
                  refine g_callVi (E' := mE a cI cZ q_130.2) (k0 := 0) (As := [.int (g_ga ((f_X10_asked__ σ (f_X10_isClass x1) (f_X10_in x2 0 9999) w0_25).2) 5 x1), .int 0]) (rest := []) F hI (c_X10_sumOf l D a cI cZ F.2.2 N s_114 (g_ga ((f_X10_asked__ σ (f_X10_isClass x1) (f_X10_in x2 0 9999) w0_25).2) 5 x1) 0 q_130 e_130) kb_X10_sumOf ki_X10_sumOf ks_X10_sumOf km_X10_155 ⟨Nat.le_of_ble_eq_true rfl, Nat.le_of_ble_eq_true rfl, rfl, rfl⟩ (by decide) mE_0 rfl hl.1 rfl (Nat.le_of_ble_eq_true rfl) ⟨Nat.zero_le _, Nat.zero_le _⟩ dX10_arrange_130 (fun H locs hI => ?_)
                  exact J133 _ _ _ _ _ h hI (lv_sub hl [1, 2, 3, 4, 5, 6, 7, 8, 0] rfl)
                · have h := (if_pos c_119).symm.trans h
                  refine lv_ldc (v := 1000000000) hx hb F.1.2.2.2.1 (F.1.2.2.2.2 _ kk_X10_127) dX10_arrange_122 ?_
                  refine lv_goto (tgt := 133) hx hb dX10_arrange_124 (by decide) ?_
                  exact J133 _ _ _ _ _ h hI (lv_sub hl [1, 2, 3, 4, 5, 6, 7, 8, 0] rfl)
              refine lv_if_eq (tgt := 113) hx hb dX10_arrange_101 (by decide) (fun c_101 => ?_) (fun c_101 => ?_)
              · have h := (if_pos c_101).symm.trans h
                refine lv_iconst (v := -1) hx hb dX10_arrange_113 (by decide) ?_
                exact J114 _ _ _ _ _ h hI (lv_sub hl [0, 1, 2, 3, 4, 5, 6, 7] rfl)
              · have h := (if_neg c_101).symm.trans h
                refine lv_aload_n hx hb dX10_arrange_104 rfl (lv_at hl 0 rfl) ?_
                refine lv_iload_n hx hb dX10_arrange_105 rfl (lv_at hl 3 rfl) ?_
                refine lv_iconst (v := 1) hx hb dX10_arrange_106 (by decide) ?_
                obtain ⟨q_107, e_107, h⟩ := gBind_in h
                refine g_callVi (E' := mE a cI cZ q_107.2) (k0 := 0) (As := [.int (g_ga ((f_X10_asked__ σ (f_X10_isClass x1) (f_X10_in x2 0 9999) w0_25).2) 5 x1), .int 1]) (rest := []) F hI (c_X10_sumOf l D a cI cZ F.2.2 N q_98.2 (g_ga ((f_X10_asked__ σ (f_X10_isClass x1) (f_X10_in x2 0 9999) w0_25).2) 5 x1) 1 q_107 e_107) kb_X10_sumOf ki_X10_sumOf ks_X10_sumOf km_X10_155 ⟨Nat.le_of_ble_eq_true rfl, Nat.le_of_ble_eq_true rfl, rfl, rfl⟩ (by decide) mE_0 rfl hl.1 rfl (Nat.le_of_ble_eq_true rfl) ⟨Nat.zero_le _, Nat.zero_le _⟩ dX10_arrange_107 (fun H locs hI => ?_)
                refine lv_goto (tgt := 114) hx hb dX10_arrange_110 (by decide) ?_
                exact J114 _ _ _ _ _ h hI (lv_sub hl [0, 1, 2, 3, 4, 5, 6, 7] rfl)
        exact L87 _ _ _ _ _ _ _ _ h hI (lv_sub hl [4, 5, 6, 7, 3, 2, 1, 0] rfl)
      refine lv_icmp_ne (tgt := 50) hx hb dX10_arrange_42 (by decide) (fun c_42 => ?_) (fun c_42 => ?_)
      · have h := (if_neg c_42).symm.trans h
        refine lv_iload_n hx hb dX10_arrange_50 rfl (lv_at hl 0 rfl) ?_
        refine lv_iconst (v := 5) hx hb dX10_arrange_51 (by decide) ?_
        refine lv_icmp_ne (tgt := 61) hx hb dX10_arrange_52 (by decide) (fun c_52 => ?_) (fun c_52 => ?_)
        · have h := (if_neg c_52).symm.trans h
          refine lv_iload_n hx hb dX10_arrange_61 rfl (lv_at hl 0 rfl) ?_
          refine lv_bipush (v := 6) hx hb dX10_arrange_62 (by decide) ?_
          refine lv_icmp_ne (tgt := 73) hx hb dX10_arrange_64 (by decide) (fun c_64 => ?_) (fun c_64 => ?_)
          · have h := (if_neg c_64).symm.trans h
            refine lv_iconst (v := 0) hx hb dX10_arrange_73 (by decide) ?_
            exact J74 _ _ _ _ h hI (lv_sub hl [1, 2, 3, 0] rfl)
          · have h := (if_pos c_64).symm.trans h
            refine lv_sipush (v := 1296) hx hb dX10_arrange_67 (by decide) ?_
            refine lv_goto (tgt := 74) hx hb dX10_arrange_70 (by decide) ?_
            exact J74 _ _ _ _ h hI (lv_sub hl [1, 2, 3, 0] rfl)
        · have h := (if_pos c_52).symm.trans h
          refine lv_sipush (v := 216) hx hb dX10_arrange_55 (by decide) ?_
          refine lv_goto (tgt := 74) hx hb dX10_arrange_58 (by decide) ?_
          exact J74 _ _ _ _ h hI (lv_sub hl [1, 2, 3, 0] rfl)
      · have h := (if_pos c_42).symm.trans h
        refine lv_bipush (v := 36) hx hb dX10_arrange_45 (by decide) ?_
        refine lv_goto (tgt := 74) hx hb dX10_arrange_47 (by decide) ?_
        exact J74 _ _ _ _ h hI (lv_sub hl [1, 2, 3, 0] rfl)
    · have h := (if_pos c_28).symm.trans h
      refine lv_iconst (v := 0) hx hb dX10_arrange_31 (by decide) ?_
      have h := Option.some.inj h
      subst h
      exact hq _ _ _ _ hI dX10_arrange_32
  refine lv_if_ne (tgt := 24) hx hb dX10_arrange_17 (by decide) (fun c_17 => ?_) (fun c_17 => ?_)
  · have h := (if_neg c_17).symm.trans h
    refine lv_iconst (v := 0) hx hb dX10_arrange_24 (by decide) ?_
    exact J25 _ _ _ _ h hI (lv_sub hl [0, 1, 2] rfl)
  · have h := (if_pos c_17).symm.trans h
    refine lv_iconst (v := 1) hx hb dX10_arrange_20 (by decide) ?_
    refine lv_goto (tgt := 25) hx hb dX10_arrange_21 (by decide) ?_
    exact J25 _ _ _ _ h hI (lv_sub hl [0, 1, 2] rfl)
/-- SpurlineModel.courseAt(II)I -/
def f_X10_courseAt (N : Nat) (σ : gSt) (x1 x2 : Int32) : Option (Int32 × gSt) :=
  gJoin1 (fun (w0_31 : Int32) =>
      if (f_X10_asked σ w0_31).1 = 0 then
        some (0, (f_X10_asked σ w0_31).2)
      else
        if (6 * x1) + x2 < 0 ∨ 30 ≤ ((6 * x1) + x2).toNatClampNeg then none else
        some (g_ga ((f_X10_asked σ w0_31).2) 4 ((6 * x1) + x2), (f_X10_asked σ w0_31).2)) (fun j31 =>
  gJoin0 (
      j31 0) (fun j30 =>
    if f_X10_isClass x1 = 0 then
      j30
    else
      if x1 < 0 ∨ 5 ≤ x1.toNatClampNeg then none else
      if f_X10_in x2 0 ((g_ga σ 5 x1) - 1) = 0 then
        j30
      else
        j31 1))
abbrev rmX10_courseAt : Room := { frames := 2, cells := 0, slots := 0, locals := 42 }
theorem kb_X10_courseAt : g_CB yX10_courseAt cX10_courseAt 4 (some .int) 2 := ⟨kc_X10_courseAt, kn_X10, by decide +kernel⟩
set_option maxRecDepth 100000 in
set_option maxHeartbeats 4000000 in
theorem c_X10_courseAt (l : Launch) (D : va_G) (a : Nat → Nat) (cI cZ : ClassId) (hj : g_Inj 21 a) (N : Nat) (σ : gSt) (x1 x2 : Int32) (out : Int32 × gSt) (hh : f_X10_courseAt N σ x1 x2 = some out) : Met l yX10_courseAt (Cond.code yX10_courseAt cX10_courseAt 4 (some .int) :: gW) rmX10_courseAt (g_Pc 21 D a (mE a cI cZ σ) [(cI, .int), (cZ, .boolean)] [.ref (a 0), .int x1, .int x2]) (g_Qi 21 D a (mE a cI cZ out.2) out.1) 0 0 (g_Own 21 a) := by
  refine g_meti (by decide) hj (Nat.le_of_ble_eq_true rfl) ?_
  intro p e s m args below meth c Q ls F hl hI hq
  have hx := F.1.1
  have hb := F.1.2.1
  have hl : lv_has ls 4 [(0, .ref (a 0)), (1, .int x1), (2, .int x2)] := hl
  have h := hh
  unfold f_X10_courseAt at h
  refine lv_iload_n hx hb dX10_courseAt_0 rfl (lv_at hl 1 rfl) ?_
  refine g_callSi (E' := mE a cI cZ σ) (As := [.int x1]) (rest := []) F hI (c_X10_isClass l D a cI cZ F.2.2 σ x1) kb_X10_isClass kt_X10_isClass km_X10_148 ⟨Nat.le_of_ble_eq_true rfl, Nat.le_of_ble_eq_true rfl, rfl, rfl⟩ hl.1 rfl (Nat.le_of_ble_eq_true rfl) ⟨Nat.zero_le _, Nat.zero_le _⟩ dX10_courseAt_1 (fun H locs hI => ?_)
  refine lv_istore_n (lv' := [(3, .int (f_X10_isClass x1)), (0, .ref (a 0)), (1, .int x1), (2, .int x2)]) hx hb dX10_courseAt_4 rfl hl (by decide) rfl (fun ls hl => ?_)
  refine lv_aload_n hx hb dX10_courseAt_5 rfl (lv_at hl 1 rfl) ?_
  refine lv_iload_n hx hb dX10_courseAt_6 rfl (lv_at hl 0 rfl) ?_
  obtain ⟨j31, hj31, h⟩ := gJoin1_in h
  have J31 : ∀ (w0_31 : Int32) (H : Heap) (locs : List Loc) (ls : Array Slot), j31 w0_31 = some out → g_S 21 D a (mE a cI cZ σ) s.heap H locs → lv_has ls 4 [(0, .ref (a 0)), (1, .int x1), (2, .int x2)] → W p l e rmX10_courseAt s m args below meth c H locs 0 0 Q (F0 m 31 ls [.int w0_31, .ref (a 0)]) := by
    intro w0_31 H locs ls h hI hl
    rw [hj31] at h
    refine g_callVi (E' := mE a cI cZ ((f_X10_asked σ w0_31).2)) (k0 := 0) (As := [.int w0_31]) (rest := []) F hI (c_X10_asked l D a cI cZ F.2.2 σ w0_31) kb_X10_asked ki_X10_asked ks_X10_asked km_X10_103 ⟨Nat.le_of_ble_eq_true rfl, Nat.le_of_ble_eq_true rfl, rfl, rfl⟩ (by decide) mE_0 rfl hl.1 rfl (Nat.le_of_ble_eq_true rfl) ⟨Nat.zero_le _, Nat.zero_le _⟩ dX10_courseAt_31 (fun H locs hI => ?_)
    refine lv_if_eq (tgt := 51) hx hb dX10_courseAt_34 (by decide) (fun c_34 => ?_) (fun c_34 => ?_)
    · have h := (if_pos c_34).symm.trans h
      refine lv_iconst (v := 0) hx hb dX10_courseAt_51 (by decide) ?_
      have h := Option.some.inj h
      subst h
      exact hq _ _ _ _ hI dX10_courseAt_52
    · have h := (if_neg c_34).symm.trans h
      refine lv_aload_n hx hb dX10_courseAt_37 rfl (lv_at hl 0 rfl) ?_
      refine g_get F hI (by decide) mE_0 rfl ku_X10 7 (by decide) kf_X10_23 rfl dX10_courseAt_38 ?_
      refine lv_bipush (v := 6) hx hb dX10_courseAt_41 (by decide) ?_
      refine lv_iload_n hx hb dX10_courseAt_43 rfl (lv_at hl 1 rfl) ?_
      refine lv_imul hx hb dX10_courseAt_44 ?_
      refine lv_iload_n hx hb dX10_courseAt_45 rfl (lv_at hl 2 rfl) ?_
      refine lv_iadd hx hb dX10_courseAt_46 ?_
      obtain ⟨g_47, h⟩ := g_guard h
      refine g_iald F hI (by decide) mE_a4 0 rfl g_47 dX10_courseAt_47 ?_
      refine lv_goto (tgt := 52) hx hb dX10_courseAt_48 (by decide) ?_
      have h := Option.some.inj h
      subst h
      exact hq _ _ _ _ hI dX10_courseAt_52
  obtain ⟨j30, hj30, h⟩ := gJoin0_in h
  have J30 : ∀ (H : Heap) (locs : List Loc) (ls : Array Slot), j30  = some out → g_S 21 D a (mE a cI cZ σ) s.heap H locs → lv_has ls 4 [(0, .ref (a 0)), (1, .int x1), (2, .int x2)] → W p l e rmX10_courseAt s m args below meth c H locs 0 0 Q (F0 m 30 ls [.ref (a 0)]) := by
    intro  H locs ls h hI hl
    rw [hj30] at h
    refine lv_iconst (v := 0) hx hb dX10_courseAt_30 (by decide) ?_
    exact J31 _ _ _ _ h hI (lv_sub hl [0, 1, 2] rfl)
  refine lv_if_eq (tgt := 30) hx hb dX10_courseAt_7 (by decide) (fun c_7 => ?_) (fun c_7 => ?_)
  · have h := (if_pos c_7).symm.trans h
    exact J30 _ _ _ h hI (lv_sub hl [1, 2, 3] rfl)
  · have h := (if_neg c_7).symm.trans h
    refine lv_iload_n hx hb dX10_courseAt_10 rfl (lv_at hl 3 rfl) ?_
    refine lv_iconst (v := 0) hx hb dX10_courseAt_11 (by decide) ?_
    refine lv_aload_n hx hb dX10_courseAt_12 rfl (lv_at hl 1 rfl) ?_
    refine g_get F hI (by decide) mE_0 rfl ku_X10 8 (by decide) kf_X10_26 rfl dX10_courseAt_13 ?_
    refine lv_iload_n hx hb dX10_courseAt_16 rfl (lv_at hl 2 rfl) ?_
    obtain ⟨g_17, h⟩ := g_guard h
    refine g_iald F hI (by decide) mE_a5 0 rfl g_17 dX10_courseAt_17 ?_
    refine lv_iconst (v := 1) hx hb dX10_courseAt_18 (by decide) ?_
    refine lv_isub hx hb dX10_courseAt_19 ?_
    refine g_callSi (E' := mE a cI cZ σ) (As := [.int x2, .int 0, .int ((g_ga σ 5 x1) - 1)]) (rest := [.ref (a 0)]) F hI (c_X10_in l D a cI cZ F.2.2 σ x2 0 ((g_ga σ 5 x1) - 1)) kb_X10_in kt_X10_in km_X10_81 ⟨Nat.le_of_ble_eq_true rfl, Nat.le_of_ble_eq_true rfl, rfl, rfl⟩ hl.1 rfl (Nat.le_of_ble_eq_true rfl) ⟨Nat.zero_le _, Nat.zero_le _⟩ dX10_courseAt_20 (fun H locs hI => ?_)
    refine lv_if_eq (tgt := 30) hx hb dX10_courseAt_23 (by decide) (fun c_23 => ?_) (fun c_23 => ?_)
    · have h := (if_pos c_23).symm.trans h
      exact J30 _ _ _ h hI (lv_sub hl [1, 2, 3] rfl)
    · have h := (if_neg c_23).symm.trans h
      refine lv_iconst (v := 1) hx hb dX10_courseAt_26 (by decide) ?_
      refine lv_goto (tgt := 31) hx hb dX10_courseAt_27 (by decide) ?_
      exact J31 _ _ _ _ h hI (lv_sub hl [1, 2, 3] rfl)
/-- SpurlineModel.courseClimb(I)I -/
def f_X10_courseClimb (N : Nat) (σ : gSt) (x1 : Int32) : Option (Int32 × gSt) :=
  if (f_X10_asked σ (f_X10_isClass x1)).1 = 0 then
    some (0, (f_X10_asked σ (f_X10_isClass x1)).2)
  else
    (f_X10_sumOfCourse N ((f_X10_asked σ (f_X10_isClass x1)).2) x1 1).bind (fun (q_14 : Int32 × gSt) =>
    some (q_14.1, q_14.2))
abbrev rmX10_courseClimb : Room := { frames := 6, cells := 0, slots := 0, locals := 141 }
theorem kb_X10_courseClimb : g_CB yX10_courseClimb cX10_courseClimb 2 (some .int) 1 := ⟨kc_X10_courseClimb, kn_X10, by decide +kernel⟩
set_option maxRecDepth 100000 in
set_option maxHeartbeats 4000000 in
theorem c_X10_courseClimb (l : Launch) (D : va_G) (a : Nat → Nat) (cI cZ : ClassId) (hj : g_Inj 21 a) (N : Nat) (σ : gSt) (x1 : Int32) (out : Int32 × gSt) (hh : f_X10_courseClimb N σ x1 = some out) : Met l yX10_courseClimb (Cond.code yX10_courseClimb cX10_courseClimb 2 (some .int) :: gW) rmX10_courseClimb (g_Pc 21 D a (mE a cI cZ σ) [(cI, .int), (cZ, .boolean)] [.ref (a 0), .int x1]) (g_Qi 21 D a (mE a cI cZ out.2) out.1) 0 0 (g_Own 21 a) := by
  refine g_meti (by decide) hj (Nat.le_of_ble_eq_true rfl) ?_
  intro p e s m args below meth c Q ls F hl hI hq
  have hx := F.1.1
  have hb := F.1.2.1
  have hl : lv_has ls 2 [(0, .ref (a 0)), (1, .int x1)] := hl
  have h := hh
  unfold f_X10_courseClimb at h
  refine lv_aload_n hx hb dX10_courseClimb_0 rfl (lv_at hl 0 rfl) ?_
  refine lv_iload_n hx hb dX10_courseClimb_1 rfl (lv_at hl 1 rfl) ?_
  refine g_callSi (E' := mE a cI cZ σ) (As := [.int x1]) (rest := [.ref (a 0)]) F hI (c_X10_isClass l D a cI cZ F.2.2 σ x1) kb_X10_isClass kt_X10_isClass km_X10_148 ⟨Nat.le_of_ble_eq_true rfl, Nat.le_of_ble_eq_true rfl, rfl, rfl⟩ hl.1 rfl (Nat.le_of_ble_eq_true rfl) ⟨Nat.zero_le _, Nat.zero_le _⟩ dX10_courseClimb_2 (fun H locs hI => ?_)
  refine g_callVi (E' := mE a cI cZ ((f_X10_asked σ (f_X10_isClass x1)).2)) (k0 := 0) (As := [.int (f_X10_isClass x1)]) (rest := []) F hI (c_X10_asked l D a cI cZ F.2.2 σ (f_X10_isClass x1)) kb_X10_asked ki_X10_asked ks_X10_asked km_X10_103 ⟨Nat.le_of_ble_eq_true rfl, Nat.le_of_ble_eq_true rfl, rfl, rfl⟩ (by decide) mE_0 rfl hl.1 rfl (Nat.le_of_ble_eq_true rfl) ⟨Nat.zero_le _, Nat.zero_le _⟩ dX10_courseClimb_5 (fun H locs hI => ?_)
  refine lv_if_eq (tgt := 20) hx hb dX10_courseClimb_8 (by decide) (fun c_8 => ?_) (fun c_8 => ?_)
  · have h := (if_pos c_8).symm.trans h
    refine lv_iconst (v := 0) hx hb dX10_courseClimb_20 (by decide) ?_
    have h := Option.some.inj h
    subst h
    exact hq _ _ _ _ hI dX10_courseClimb_21
  · have h := (if_neg c_8).symm.trans h
    refine lv_aload_n hx hb dX10_courseClimb_11 rfl (lv_at hl 0 rfl) ?_
    refine lv_iload_n hx hb dX10_courseClimb_12 rfl (lv_at hl 1 rfl) ?_
    refine lv_iconst (v := 1) hx hb dX10_courseClimb_13 (by decide) ?_
    obtain ⟨q_14, e_14, h⟩ := gBind_in h
    refine g_callVi (E' := mE a cI cZ q_14.2) (k0 := 0) (As := [.int x1, .int 1]) (rest := []) F hI (c_X10_sumOfCourse l D a cI cZ F.2.2 N ((f_X10_asked σ (f_X10_isClass x1)).2) x1 1 q_14 e_14) kb_X10_sumOfCourse ki_X10_sumOfCourse ks_X10_sumOfCourse km_X10_168 ⟨Nat.le_of_ble_eq_true rfl, Nat.le_of_ble_eq_true rfl, rfl, rfl⟩ (by decide) mE_0 rfl hl.1 rfl (Nat.le_of_ble_eq_true rfl) ⟨Nat.zero_le _, Nat.zero_le _⟩ dX10_courseClimb_14 (fun H locs hI => ?_)
    refine lv_goto (tgt := 21) hx hb dX10_courseClimb_17 (by decide) ?_
    have h := Option.some.inj h
    subst h
    exact hq _ _ _ _ hI dX10_courseClimb_21
/-- SpurlineModel.courseCost(I)I -/
def f_X10_courseCost (N : Nat) (σ : gSt) (x1 : Int32) : Option (Int32 × gSt) :=
  if (f_X10_asked σ (f_X10_isClass x1)).1 = 0 then
    some (0, (f_X10_asked σ (f_X10_isClass x1)).2)
  else
    (f_X10_sumOfCourse N ((f_X10_asked σ (f_X10_isClass x1)).2) x1 0).bind (fun (q_14 : Int32 × gSt) =>
    some (q_14.1, q_14.2))
abbrev rmX10_courseCost : Room := { frames := 6, cells := 0, slots := 0, locals := 141 }
theorem kb_X10_courseCost : g_CB yX10_courseCost cX10_courseCost 2 (some .int) 1 := ⟨kc_X10_courseCost, kn_X10, by decide +kernel⟩
set_option maxRecDepth 100000 in
set_option maxHeartbeats 4000000 in
theorem c_X10_courseCost (l : Launch) (D : va_G) (a : Nat → Nat) (cI cZ : ClassId) (hj : g_Inj 21 a) (N : Nat) (σ : gSt) (x1 : Int32) (out : Int32 × gSt) (hh : f_X10_courseCost N σ x1 = some out) : Met l yX10_courseCost (Cond.code yX10_courseCost cX10_courseCost 2 (some .int) :: gW) rmX10_courseCost (g_Pc 21 D a (mE a cI cZ σ) [(cI, .int), (cZ, .boolean)] [.ref (a 0), .int x1]) (g_Qi 21 D a (mE a cI cZ out.2) out.1) 0 0 (g_Own 21 a) := by
  refine g_meti (by decide) hj (Nat.le_of_ble_eq_true rfl) ?_
  intro p e s m args below meth c Q ls F hl hI hq
  have hx := F.1.1
  have hb := F.1.2.1
  have hl : lv_has ls 2 [(0, .ref (a 0)), (1, .int x1)] := hl
  have h := hh
  unfold f_X10_courseCost at h
  refine lv_aload_n hx hb dX10_courseCost_0 rfl (lv_at hl 0 rfl) ?_
  refine lv_iload_n hx hb dX10_courseCost_1 rfl (lv_at hl 1 rfl) ?_
  refine g_callSi (E' := mE a cI cZ σ) (As := [.int x1]) (rest := [.ref (a 0)]) F hI (c_X10_isClass l D a cI cZ F.2.2 σ x1) kb_X10_isClass kt_X10_isClass km_X10_148 ⟨Nat.le_of_ble_eq_true rfl, Nat.le_of_ble_eq_true rfl, rfl, rfl⟩ hl.1 rfl (Nat.le_of_ble_eq_true rfl) ⟨Nat.zero_le _, Nat.zero_le _⟩ dX10_courseCost_2 (fun H locs hI => ?_)
  refine g_callVi (E' := mE a cI cZ ((f_X10_asked σ (f_X10_isClass x1)).2)) (k0 := 0) (As := [.int (f_X10_isClass x1)]) (rest := []) F hI (c_X10_asked l D a cI cZ F.2.2 σ (f_X10_isClass x1)) kb_X10_asked ki_X10_asked ks_X10_asked km_X10_103 ⟨Nat.le_of_ble_eq_true rfl, Nat.le_of_ble_eq_true rfl, rfl, rfl⟩ (by decide) mE_0 rfl hl.1 rfl (Nat.le_of_ble_eq_true rfl) ⟨Nat.zero_le _, Nat.zero_le _⟩ dX10_courseCost_5 (fun H locs hI => ?_)
  refine lv_if_eq (tgt := 20) hx hb dX10_courseCost_8 (by decide) (fun c_8 => ?_) (fun c_8 => ?_)
  · have h := (if_pos c_8).symm.trans h
    refine lv_iconst (v := 0) hx hb dX10_courseCost_20 (by decide) ?_
    have h := Option.some.inj h
    subst h
    exact hq _ _ _ _ hI dX10_courseCost_21
  · have h := (if_neg c_8).symm.trans h
    refine lv_aload_n hx hb dX10_courseCost_11 rfl (lv_at hl 0 rfl) ?_
    refine lv_iload_n hx hb dX10_courseCost_12 rfl (lv_at hl 1 rfl) ?_
    refine lv_iconst (v := 0) hx hb dX10_courseCost_13 (by decide) ?_
    obtain ⟨q_14, e_14, h⟩ := gBind_in h
    refine g_callVi (E' := mE a cI cZ q_14.2) (k0 := 0) (As := [.int x1, .int 0]) (rest := []) F hI (c_X10_sumOfCourse l D a cI cZ F.2.2 N ((f_X10_asked σ (f_X10_isClass x1)).2) x1 0 q_14 e_14) kb_X10_sumOfCourse ki_X10_sumOfCourse ks_X10_sumOfCourse km_X10_168 ⟨Nat.le_of_ble_eq_true rfl, Nat.le_of_ble_eq_true rfl, rfl, rfl⟩ (by decide) mE_0 rfl hl.1 rfl (Nat.le_of_ble_eq_true rfl) ⟨Nat.zero_le _, Nat.zero_le _⟩ dX10_courseCost_14 (fun H locs hI => ?_)
    refine lv_goto (tgt := 21) hx hb dX10_courseCost_17 (by decide) ?_
    have h := Option.some.inj h
    subst h
    exact hq _ _ _ _ hI dX10_courseCost_21
/-- SpurlineModel.spread()I -/
def f_X10_spread (N : Nat) (σ : gSt) : Option (Int32 × gSt) :=
  gLoop4 (fun self11 (v1_11 : Int32) (v2_11 : Int32) (v3_11 : Int32) (s_11 : gSt) =>
    if 5 ≤ v3_11 then
      some (v2_11 - v1_11, s_11)
    else
      (f_X10_sumOfCourse N s_11 v3_11 1).bind (fun (q_19 : Int32 × gSt) =>
      gJoin1 (fun (w0_47 : Int32) =>
          gJoin1 (fun (w0_60 : Int32) =>
              self11 w0_47 w0_60 (v3_11 + 1) q_19.2) (fun j60 =>
            if q_19.1 ≤ v2_11 then
              j60 v2_11
            else
              j60 q_19.1)) (fun j47 =>
      gJoin0 (
          j47 v1_11) (fun j46 =>
        if q_19.1 = (-1) then
          j46
        else
          gJoin0 (
              j47 q_19.1) (fun j41 =>
            if v1_11 = (-1) then
              j41
            else
              if v1_11 ≤ q_19.1 then
                j46
              else
                j41))))) N (-1) (-1) 0 (g_sf σ 6 0)
abbrev rmX10_spread : Room := { frames := 6, cells := 0, slots := 0, locals := 141 }
theorem kb_X10_spread : g_CB yX10_spread cX10_spread 5 (some .int) 0 := ⟨kc_X10_spread, kn_X10, by decide +kernel⟩
set_option maxRecDepth 100000 in
set_option maxHeartbeats 4000000 in
theorem c_X10_spread (l : Launch) (D : va_G) (a : Nat → Nat) (cI cZ : ClassId) (hj : g_Inj 21 a) (N : Nat) (σ : gSt) (out : Int32 × gSt) (hh : f_X10_spread N σ = some out) : Met l yX10_spread (Cond.code yX10_spread cX10_spread 5 (some .int) :: gW) rmX10_spread (g_Pc 21 D a (mE a cI cZ σ) [(cI, .int), (cZ, .boolean)] [.ref (a 0)]) (g_Qi 21 D a (mE a cI cZ out.2) out.1) 0 0 (g_Own 21 a) := by
  refine g_meti (by decide) hj (Nat.le_of_ble_eq_true rfl) ?_
  intro p e s m args below meth c Q ls F hl hI hq
  have hx := F.1.1
  have hb := F.1.2.1
  have hl : lv_has ls 5 [(0, .ref (a 0))] := hl
  have h := hh
  unfold f_X10_spread at h
  refine lv_aload_n hx hb dX10_spread_0 rfl (lv_at hl 0 rfl) ?_
  refine lv_iconst (v := 0) hx hb dX10_spread_1 (by decide) ?_
  refine g_put (E' := mE a cI cZ (g_sf σ 6 0)) F hI (by decide) mE_0 rfl ku_X10 tyX10_ok nmX10 26 (by decide) kf_X10_78 rfl rfl rfl rfl (Nat.le_of_ble_eq_true rfl) rfl mE_sf dX10_spread_2 (fun H locs hI => ?_)
  refine lv_iconst (v := -1) hx hb dX10_spread_5 (by decide) ?_
  refine lv_istore_n (lv' := [(1, .int (-1)), (0, .ref (a 0))]) hx hb dX10_spread_6 rfl hl (by decide) rfl (fun ls hl => ?_)
  refine lv_iconst (v := -1) hx hb dX10_spread_7 (by decide) ?_
  refine lv_istore_n (lv' := [(2, .int (-1)), (1, .int (-1)), (0, .ref (a 0))]) hx hb dX10_spread_8 rfl hl (by decide) rfl (fun ls hl => ?_)
  refine lv_iconst (v := 0) hx hb dX10_spread_9 (by decide) ?_
  refine lv_istore_n (lv' := [(3, .int 0), (2, .int (-1)), (1, .int (-1)), (0, .ref (a 0))]) hx hb dX10_spread_10 rfl hl (by decide) rfl (fun ls hl => ?_)
  obtain ⟨lp11, hz11, hs11, h⟩ := gLoop4_in h
  have L11 : ∀ (n : Nat) (v1_11 : Int32) (v2_11 : Int32) (v3_11 : Int32) (s_11 : gSt) (H : Heap) (locs : List Loc) (ls : Array Slot), lp11 n v1_11 v2_11 v3_11 s_11 = some out → g_S 21 D a (mE a cI cZ s_11) s.heap H locs → lv_has ls 5 [(0, .ref (a 0)), (1, .int v1_11), (2, .int v2_11), (3, .int v3_11)] → W p l e rmX10_spread s m args below meth c H locs 0 0 Q (F0 m 11 ls []) := by
    intro n
    induction n with
    | zero => intro v1_11 v2_11 v3_11 s_11 H locs ls h; rw [hz11] at h; cases h
    | succ n ih11 =>
      intro v1_11 v2_11 v3_11 s_11 H locs ls h hI hl
      rw [hs11] at h
      refine lv_iload_n hx hb dX10_spread_11 rfl (lv_at hl 3 rfl) ?_
      refine lv_iconst (v := 5) hx hb dX10_spread_12 (by decide) ?_
      refine lv_icmp_ge (tgt := 67) hx hb dX10_spread_13 (by decide) (fun c_13 => ?_) (fun c_13 => ?_)
      · have h := (if_pos c_13).symm.trans h
        refine lv_iload_n hx hb dX10_spread_67 rfl (lv_at hl 2 rfl) ?_
        refine lv_iload_n hx hb dX10_spread_68 rfl (lv_at hl 1 rfl) ?_
        refine lv_isub hx hb dX10_spread_69 ?_
        have h := Option.some.inj h
        subst h
        exact hq _ _ _ _ hI dX10_spread_70
      · have h := (if_neg c_13).symm.trans h
        refine lv_aload_n hx hb dX10_spread_16 rfl (lv_at hl 0 rfl) ?_
        refine lv_iload_n hx hb dX10_spread_17 rfl (lv_at hl 3 rfl) ?_
        refine lv_iconst (v := 1) hx hb dX10_spread_18 (by decide) ?_
        obtain ⟨q_19, e_19, h⟩ := gBind_in h
        refine g_callVi (E' := mE a cI cZ q_19.2) (k0 := 0) (As := [.int v3_11, .int 1]) (rest := []) F hI (c_X10_sumOfCourse l D a cI cZ F.2.2 N s_11 v3_11 1 q_19 e_19) kb_X10_sumOfCourse ki_X10_sumOfCourse ks_X10_sumOfCourse km_X10_168 ⟨Nat.le_of_ble_eq_true rfl, Nat.le_of_ble_eq_true rfl, rfl, rfl⟩ (by decide) mE_0 rfl hl.1 rfl (Nat.le_of_ble_eq_true rfl) ⟨Nat.zero_le _, Nat.zero_le _⟩ dX10_spread_19 (fun H locs hI => ?_)
        refine lv_istore (lv' := [(4, .int q_19.1), (0, .ref (a 0)), (1, .int v1_11), (2, .int v2_11), (3, .int v3_11)]) hx hb dX10_spread_22 hl (by decide) rfl (fun ls hl => ?_)
        refine lv_iload hx hb dX10_spread_24 (lv_at hl 0 rfl) ?_
        refine lv_iconst (v := -1) hx hb dX10_spread_26 (by decide) ?_
        obtain ⟨j47, hj47, h⟩ := gJoin1_in h
        have J47 : ∀ (w0_47 : Int32) (H : Heap) (locs : List Loc) (ls : Array Slot), j47 w0_47 = some out → g_S 21 D a (mE a cI cZ q_19.2) s.heap H locs → lv_has ls 5 [(0, .ref (a 0)), (2, .int v2_11), (3, .int v3_11), (4, .int q_19.1)] → W p l e rmX10_spread s m args below meth c H locs 0 0 Q (F0 m 47 ls [.int w0_47]) := by
          intro w0_47 H locs ls h hI hl
          rw [hj47] at h
          refine lv_istore_n (lv' := [(1, .int w0_47), (0, .ref (a 0)), (2, .int v2_11), (3, .int v3_11), (4, .int q_19.1)]) hx hb dX10_spread_47 rfl hl (by decide) rfl (fun ls hl => ?_)
          refine lv_iload hx hb dX10_spread_48 (lv_at hl 4 rfl) ?_
          refine lv_iload_n hx hb dX10_spread_50 rfl (lv_at hl 2 rfl) ?_
          obtain ⟨j60, hj60, h⟩ := gJoin1_in h
          have J60 : ∀ (w0_60 : Int32) (H : Heap) (locs : List Loc) (ls : Array Slot), j60 w0_60 = some out → g_S 21 D a (mE a cI cZ q_19.2) s.heap H locs → lv_has ls 5 [(0, .ref (a 0)), (1, .int w0_47), (3, .int v3_11)] → W p l e rmX10_spread s m args below meth c H locs 0 0 Q (F0 m 60 ls [.int w0_60]) := by
            intro w0_60 H locs ls h hI hl
            rw [hj60] at h
            refine lv_istore_n (lv' := [(2, .int w0_60), (0, .ref (a 0)), (1, .int w0_47), (3, .int v3_11)]) hx hb dX10_spread_60 rfl hl (by decide) rfl (fun ls hl => ?_)
            refine lv_iinc (v := v3_11 + 1) (lv' := [(3, .int (v3_11 + 1)), (2, .int w0_60), (0, .ref (a 0)), (1, .int w0_47)]) hx hb dX10_spread_61 hl (k := 3) rfl rfl (by decide) rfl (fun ls hl => ?_)
            refine lv_goto (tgt := 11) hx hb dX10_spread_64 (by decide) ?_
            exact ih11 _ _ _ _ _ _ _ h hI (lv_sub hl [2, 3, 1, 0] rfl)
          refine lv_icmp_le (tgt := 59) hx hb dX10_spread_51 (by decide) (fun c_51 => ?_) (fun c_51 => ?_)
          · have h := (if_pos c_51).symm.trans h
            refine lv_iload_n hx hb dX10_spread_59 rfl (lv_at hl 2 rfl) ?_
            exact J60 _ _ _ _ h hI (lv_sub hl [1, 0, 3] rfl)
          · have h := (if_neg c_51).symm.trans h
            refine lv_iload hx hb dX10_spread_54 (lv_at hl 4 rfl) ?_
            refine lv_goto (tgt := 60) hx hb dX10_spread_56 (by decide) ?_
            exact J60 _ _ _ _ h hI (lv_sub hl [1, 0, 3] rfl)
        obtain ⟨j46, hj46, h⟩ := gJoin0_in h
        have J46 : ∀ (H : Heap) (locs : List Loc) (ls : Array Slot), j46  = some out → g_S 21 D a (mE a cI cZ q_19.2) s.heap H locs → lv_has ls 5 [(0, .ref (a 0)), (1, .int v1_11), (2, .int v2_11), (3, .int v3_11), (4, .int q_19.1)] → W p l e rmX10_spread s m args below meth c H locs 0 0 Q (F0 m 46 ls []) := by
          intro  H locs ls h hI hl
          rw [hj46] at h
          refine lv_iload_n hx hb dX10_spread_46 rfl (lv_at hl 1 rfl) ?_
          exact J47 _ _ _ _ h hI (lv_sub hl [0, 2, 3, 4] rfl)
        refine lv_icmp_eq (tgt := 46) hx hb dX10_spread_27 (by decide) (fun c_27 => ?_) (fun c_27 => ?_)
        · have h := (if_pos c_27).symm.trans h
          exact J46 _ _ _ h hI (lv_sub hl [1, 2, 3, 4, 0] rfl)
        · have h := (if_neg c_27).symm.trans h
          refine lv_iload_n hx hb dX10_spread_30 rfl (lv_at hl 2 rfl) ?_
          refine lv_iconst (v := -1) hx hb dX10_spread_31 (by decide) ?_
          obtain ⟨j41, hj41, h⟩ := gJoin0_in h
          have J41 : ∀ (H : Heap) (locs : List Loc) (ls : Array Slot), j41  = some out → g_S 21 D a (mE a cI cZ q_19.2) s.heap H locs → lv_has ls 5 [(0, .ref (a 0)), (2, .int v2_11), (3, .int v3_11), (4, .int q_19.1)] → W p l e rmX10_spread s m args below meth c H locs 0 0 Q (F0 m 41 ls []) := by
            intro  H locs ls h hI hl
            rw [hj41] at h
            refine lv_iload hx hb dX10_spread_41 (lv_at hl 3 rfl) ?_
            refine lv_goto (tgt := 47) hx hb dX10_spread_43 (by decide) ?_
            exact J47 _ _ _ _ h hI (lv_sub hl [0, 1, 2, 3] rfl)
          refine lv_icmp_eq (tgt := 41) hx hb dX10_spread_32 (by decide) (fun c_32 => ?_) (fun c_32 => ?_)
          · have h := (if_pos c_32).symm.trans h
            exact J41 _ _ _ h hI (lv_sub hl [1, 3, 4, 0] rfl)
          · have h := (if_neg c_32).symm.trans h
            refine lv_iload hx hb dX10_spread_35 (lv_at hl 0 rfl) ?_
            refine lv_iload_n hx hb dX10_spread_37 rfl (lv_at hl 2 rfl) ?_
            refine lv_icmp_ge (tgt := 46) hx hb dX10_spread_38 (by decide) (fun c_38 => ?_) (fun c_38 => ?_)
            · have h := (if_pos c_38).symm.trans h
              exact J46 _ _ _ h hI (lv_sub hl [1, 2, 3, 4, 0] rfl)
            · have h := (if_neg c_38).symm.trans h
              exact J41 _ _ _ h hI (lv_sub hl [1, 3, 4, 0] rfl)
  exact L11 _ _ _ _ _ _ _ _ h hI (lv_sub hl [3, 2, 1, 0] rfl)
/-- SpurlineModel.enter(II)I -/
def f_X10_enter (N : Nat) (σ : gSt) (x1 x2 : Int32) : Option (Int32 × gSt) :=
  gJoin1 (fun (w0_49 : Int32) =>
      if (f_X10_asked__ σ (f_X10_isClass x1) (f_X10_in x2 0 7) w0_49).1 = 0 then
        some (0, (f_X10_asked__ σ (f_X10_isClass x1) (f_X10_in x2 0 7) w0_49).2)
      else
        if ((f_X10_asked__ σ (f_X10_isClass x1) (f_X10_in x2 0 7) w0_49).2).2 3 < 0 ∨ 24 ≤ (((f_X10_asked__ σ (f_X10_isClass x1) (f_X10_in x2 0 7) w0_49).2).2 3).toNatClampNeg then none else
        if (g_pa ((f_X10_asked__ σ (f_X10_isClass x1) (f_X10_in x2 0 7) w0_49).2) 6 (((f_X10_asked__ σ (f_X10_isClass x1) (f_X10_in x2 0 7) w0_49).2).2 3) x1).2 3 < 0 ∨ 24 ≤ ((g_pa ((f_X10_asked__ σ (f_X10_isClass x1) (f_X10_in x2 0 7) w0_49).2) 6 (((f_X10_asked__ σ (f_X10_isClass x1) (f_X10_in x2 0 7) w0_49).2).2 3) x1).2 3).toNatClampNeg then none else
        some (((g_sf (g_pa (g_pa ((f_X10_asked__ σ (f_X10_isClass x1) (f_X10_in x2 0 7) w0_49).2) 6 (((f_X10_asked__ σ (f_X10_isClass x1) (f_X10_in x2 0 7) w0_49).2).2 3) x1) 7 ((g_pa ((f_X10_asked__ σ (f_X10_isClass x1) (f_X10_in x2 0 7) w0_49).2) 6 (((f_X10_asked__ σ (f_X10_isClass x1) (f_X10_in x2 0 7) w0_49).2).2 3) x1).2 3) x2) 3 (((g_pa (g_pa ((f_X10_asked__ σ (f_X10_isClass x1) (f_X10_in x2 0 7) w0_49).2) 6 (((f_X10_asked__ σ (f_X10_isClass x1) (f_X10_in x2 0 7) w0_49).2).2 3) x1) 7 ((g_pa ((f_X10_asked__ σ (f_X10_isClass x1) (f_X10_in x2 0 7) w0_49).2) 6 (((f_X10_asked__ σ (f_X10_isClass x1) (f_X10_in x2 0 7) w0_49).2).2 3) x1).2 3) x2).2 3) + 1)).2 3) - 1, g_sf (g_pa (g_pa ((f_X10_asked__ σ (f_X10_isClass x1) (f_X10_in x2 0 7) w0_49).2) 6 (((f_X10_asked__ σ (f_X10_isClass x1) (f_X10_in x2 0 7) w0_49).2).2 3) x1) 7 ((g_pa ((f_X10_asked__ σ (f_X10_isClass x1) (f_X10_in x2 0 7) w0_49).2) 6 (((f_X10_asked__ σ (f_X10_isClass x1) (f_X10_in x2 0 7) w0_49).2).2 3) x1).2 3) x2) 3 (((g_pa (g_pa ((f_X10_asked__ σ (f_X10_isClass x1) (f_X10_in x2 0 7) w0_49).2) 6 (((f_X10_asked__ σ (f_X10_isClass x1) (f_X10_in x2 0 7) w0_49).2).2 3) x1) 7 ((g_pa ((f_X10_asked__ σ (f_X10_isClass x1) (f_X10_in x2 0 7) w0_49).2) 6 (((f_X10_asked__ σ (f_X10_isClass x1) (f_X10_in x2 0 7) w0_49).2).2 3) x1).2 3) x2).2 3) + 1))) (fun j49 =>
  gJoin0 (
      j49 0) (fun j48 =>
    if f_X10_isClass x1 = 0 then
      j48
    else
      if 24 ≤ σ.2 3 then
        j48
      else
        if σ.2 4 = 0 then
          if x1 < 0 ∨ 5 ≤ x1.toNatClampNeg then none else
          if g_ga σ 5 x1 < 2 then
            j48
          else
            j49 1
        else
          j48))
abbrev rmX10_enter : Room := { frames := 2, cells := 0, slots := 0, locals := 42 }
theorem kb_X10_enter : g_CB yX10_enter cX10_enter 4 (some .int) 2 := ⟨kc_X10_enter, kn_X10, by decide +kernel⟩
set_option maxRecDepth 100000 in
set_option maxHeartbeats 4000000 in
theorem c_X10_enter (l : Launch) (D : va_G) (a : Nat → Nat) (cI cZ : ClassId) (hj : g_Inj 21 a) (N : Nat) (σ : gSt) (x1 x2 : Int32) (out : Int32 × gSt) (hh : f_X10_enter N σ x1 x2 = some out) : Met l yX10_enter (Cond.code yX10_enter cX10_enter 4 (some .int) :: gW) rmX10_enter (g_Pc 21 D a (mE a cI cZ σ) [(cI, .int), (cZ, .boolean)] [.ref (a 0), .int x1, .int x2]) (g_Qi 21 D a (mE a cI cZ out.2) out.1) 0 0 (g_Own 21 a) := by
  refine g_meti (by decide) hj (Nat.le_of_ble_eq_true rfl) ?_
  intro p e s m args below meth c Q ls F hl hI hq
  have hx := F.1.1
  have hb := F.1.2.1
  have hl : lv_has ls 4 [(0, .ref (a 0)), (1, .int x1), (2, .int x2)] := hl
  have h := hh
  unfold f_X10_enter at h
  refine lv_iload_n hx hb dX10_enter_0 rfl (lv_at hl 1 rfl) ?_
  refine g_callSi (E' := mE a cI cZ σ) (As := [.int x1]) (rest := []) F hI (c_X10_isClass l D a cI cZ F.2.2 σ x1) kb_X10_isClass kt_X10_isClass km_X10_148 ⟨Nat.le_of_ble_eq_true rfl, Nat.le_of_ble_eq_true rfl, rfl, rfl⟩ hl.1 rfl (Nat.le_of_ble_eq_true rfl) ⟨Nat.zero_le _, Nat.zero_le _⟩ dX10_enter_1 (fun H locs hI => ?_)
  refine lv_istore_n (lv' := [(3, .int (f_X10_isClass x1)), (0, .ref (a 0)), (1, .int x1), (2, .int x2)]) hx hb dX10_enter_4 rfl hl (by decide) rfl (fun ls hl => ?_)
  refine lv_aload_n hx hb dX10_enter_5 rfl (lv_at hl 1 rfl) ?_
  refine lv_iload_n hx hb dX10_enter_6 rfl (lv_at hl 0 rfl) ?_
  refine lv_iload_n hx hb dX10_enter_7 rfl (lv_at hl 3 rfl) ?_
  refine lv_iconst (v := 0) hx hb dX10_enter_8 (by decide) ?_
  refine lv_bipush (v := 7) hx hb dX10_enter_9 (by decide) ?_
  refine g_callSi (E' := mE a cI cZ σ) (As := [.int x2, .int 0, .int 7]) (rest := [.int (f_X10_isClass x1), .ref (a 0)]) F hI (c_X10_in l D a cI cZ F.2.2 σ x2 0 7) kb_X10_in kt_X10_in km_X10_81 ⟨Nat.le_of_ble_eq_true rfl, Nat.le_of_ble_eq_true rfl, rfl, rfl⟩ hl.1 rfl (Nat.le_of_ble_eq_true rfl) ⟨Nat.zero_le _, Nat.zero_le _⟩ dX10_enter_11 (fun H locs hI => ?_)
  refine lv_iload_n hx hb dX10_enter_14 rfl (lv_at hl 0 rfl) ?_
  obtain ⟨j49, hj49, h⟩ := gJoin1_in h
  have J49 : ∀ (w0_49 : Int32) (H : Heap) (locs : List Loc) (ls : Array Slot), j49 w0_49 = some out → g_S 21 D a (mE a cI cZ σ) s.heap H locs → lv_has ls 4 [(0, .ref (a 0)), (1, .int x1), (2, .int x2)] → W p l e rmX10_enter s m args below meth c H locs 0 0 Q (F0 m 49 ls [.int w0_49, .int (f_X10_in x2 0 7), .int (f_X10_isClass x1), .ref (a 0)]) := by
    intro w0_49 H locs ls h hI hl
    rw [hj49] at h
    refine g_callVi (E' := mE a cI cZ ((f_X10_asked__ σ (f_X10_isClass x1) (f_X10_in x2 0 7) w0_49).2)) (k0 := 0) (As := [.int (f_X10_isClass x1), .int (f_X10_in x2 0 7), .int w0_49]) (rest := []) F hI (c_X10_asked__ l D a cI cZ F.2.2 σ (f_X10_isClass x1) (f_X10_in x2 0 7) w0_49) kb_X10_asked__ ki_X10_asked__ ks_X10_asked__ km_X10_159 ⟨Nat.le_of_ble_eq_true rfl, Nat.le_of_ble_eq_true rfl, rfl, rfl⟩ (by decide) mE_0 rfl hl.1 rfl (Nat.le_of_ble_eq_true rfl) ⟨Nat.zero_le _, Nat.zero_le _⟩ dX10_enter_49 (fun H locs hI => ?_)
    refine lv_if_ne (tgt := 57) hx hb dX10_enter_52 (by decide) (fun c_52 => ?_) (fun c_52 => ?_)
    · have h := (if_neg c_52).symm.trans h
      refine lv_aload_n hx hb dX10_enter_57 rfl (lv_at hl 0 rfl) ?_
      refine g_get F hI (by decide) mE_0 rfl ku_X10 9 (by decide) kf_X10_29 rfl dX10_enter_58 ?_
      refine lv_aload_n hx hb dX10_enter_61 rfl (lv_at hl 0 rfl) ?_
      refine g_get F hI (by decide) mE_0 rfl ku_X10 15 (by decide) kf_X10_88 rfl dX10_enter_62 ?_
      refine lv_iload_n hx hb dX10_enter_65 rfl (lv_at hl 1 rfl) ?_
      obtain ⟨g_66, h⟩ := g_guard h
      refine g_iast (E' := mE a cI cZ (g_pa ((f_X10_asked__ σ (f_X10_isClass x1) (f_X10_in x2 0 7) w0_49).2) 6 (((f_X10_asked__ σ (f_X10_isClass x1) (f_X10_in x2 0 7) w0_49).2).2 3) x1)) F hI (by decide) mE_a6 0 rfl g_66 rfl mE_sa dX10_enter_66 (fun H locs hI => ?_)
      refine lv_aload_n hx hb dX10_enter_67 rfl (lv_at hl 0 rfl) ?_
      refine g_get F hI (by decide) mE_0 rfl ku_X10 10 (by decide) kf_X10_32 rfl dX10_enter_68 ?_
      refine lv_aload_n hx hb dX10_enter_71 rfl (lv_at hl 0 rfl) ?_
      refine g_get F hI (by decide) mE_0 rfl ku_X10 15 (by decide) kf_X10_88 rfl dX10_enter_72 ?_
      refine lv_iload_n hx hb dX10_enter_75 rfl (lv_at hl 2 rfl) ?_
      obtain ⟨g_76, h⟩ := g_guard h
      refine g_iast (E' := mE a cI cZ (g_pa (g_pa ((f_X10_asked__ σ (f_X10_isClass x1) (f_X10_in x2 0 7) w0_49).2) 6 (((f_X10_asked__ σ (f_X10_isClass x1) (f_X10_in x2 0 7) w0_49).2).2 3) x1) 7 ((g_pa ((f_X10_asked__ σ (f_X10_isClass x1) (f_X10_in x2 0 7) w0_49).2) 6 (((f_X10_asked__ σ (f_X10_isClass x1) (f_X10_in x2 0 7) w0_49).2).2 3) x1).2 3) x2)) F hI (by decide) mE_a7 0 rfl g_76 rfl mE_sa dX10_enter_76 (fun H locs hI => ?_)
      refine lv_aload_n hx hb dX10_enter_77 rfl (lv_at hl 0 rfl) ?_
      refine lv_dup hx hb dX10_enter_78 rfl ?_
      refine g_get F hI (by decide) mE_0 rfl ku_X10 15 (by decide) kf_X10_88 rfl dX10_enter_79 ?_
      refine lv_iconst (v := 1) hx hb dX10_enter_82 (by decide) ?_
      refine lv_iadd hx hb dX10_enter_83 ?_
      refine g_put (E' := mE a cI cZ (g_sf (g_pa (g_pa ((f_X10_asked__ σ (f_X10_isClass x1) (f_X10_in x2 0 7) w0_49).2) 6 (((f_X10_asked__ σ (f_X10_isClass x1) (f_X10_in x2 0 7) w0_49).2).2 3) x1) 7 ((g_pa ((f_X10_asked__ σ (f_X10_isClass x1) (f_X10_in x2 0 7) w0_49).2) 6 (((f_X10_asked__ σ (f_X10_isClass x1) (f_X10_in x2 0 7) w0_49).2).2 3) x1).2 3) x2) 3 (((g_pa (g_pa ((f_X10_asked__ σ (f_X10_isClass x1) (f_X10_in x2 0 7) w0_49).2) 6 (((f_X10_asked__ σ (f_X10_isClass x1) (f_X10_in x2 0 7) w0_49).2).2 3) x1) 7 ((g_pa ((f_X10_asked__ σ (f_X10_isClass x1) (f_X10_in x2 0 7) w0_49).2) 6 (((f_X10_asked__ σ (f_X10_isClass x1) (f_X10_in x2 0 7) w0_49).2).2 3) x1).2 3) x2).2 3) + 1))) F hI (by decide) mE_0 rfl ku_X10 tyX10_ok nmX10 15 (by decide) kf_X10_88 rfl rfl rfl rfl (Nat.le_of_ble_eq_true rfl) rfl mE_sf dX10_enter_84 (fun H locs hI => ?_)
      refine lv_aload_n hx hb dX10_enter_87 rfl (lv_at hl 0 rfl) ?_
      refine g_get F hI (by decide) mE_0 rfl ku_X10 15 (by decide) kf_X10_88 rfl dX10_enter_88 ?_
      refine lv_iconst (v := 1) hx hb dX10_enter_91 (by decide) ?_
      refine lv_isub hx hb dX10_enter_92 ?_
      have h := Option.some.inj h
      subst h
      exact hq _ _ _ _ hI dX10_enter_93
    · have h := (if_pos c_52).symm.trans h
      refine lv_iconst (v := 0) hx hb dX10_enter_55 (by decide) ?_
      have h := Option.some.inj h
      subst h
      exact hq _ _ _ _ hI dX10_enter_56
  obtain ⟨j48, hj48, h⟩ := gJoin0_in h
  have J48 : ∀ (H : Heap) (locs : List Loc) (ls : Array Slot), j48  = some out → g_S 21 D a (mE a cI cZ σ) s.heap H locs → lv_has ls 4 [(0, .ref (a 0)), (1, .int x1), (2, .int x2)] → W p l e rmX10_enter s m args below meth c H locs 0 0 Q (F0 m 48 ls [.int (f_X10_in x2 0 7), .int (f_X10_isClass x1), .ref (a 0)]) := by
    intro  H locs ls h hI hl
    rw [hj48] at h
    refine lv_iconst (v := 0) hx hb dX10_enter_48 (by decide) ?_
    exact J49 _ _ _ _ h hI (lv_sub hl [0, 1, 2] rfl)
  refine lv_if_eq (tgt := 48) hx hb dX10_enter_15 (by decide) (fun c_15 => ?_) (fun c_15 => ?_)
  · have h := (if_pos c_15).symm.trans h
    exact J48 _ _ _ h hI (lv_sub hl [1, 2, 3] rfl)
  · have h := (if_neg c_15).symm.trans h
    refine lv_aload_n hx hb dX10_enter_18 rfl (lv_at hl 1 rfl) ?_
    refine g_get F hI (by decide) mE_0 rfl ku_X10 15 (by decide) kf_X10_88 rfl dX10_enter_19 ?_
    refine lv_bipush (v := 24) hx hb dX10_enter_22 (by decide) ?_
    refine lv_icmp_ge (tgt := 48) hx hb dX10_enter_24 (by decide) (fun c_24 => ?_) (fun c_24 => ?_)
    · have h := (if_pos c_24).symm.trans h
      exact J48 _ _ _ h hI (lv_sub hl [1, 2, 3] rfl)
    · have h := (if_neg c_24).symm.trans h
      refine lv_aload_n hx hb dX10_enter_27 rfl (lv_at hl 1 rfl) ?_
      refine g_get F hI (by decide) mE_0 rfl ku_X10 16 (by decide) kf_X10_151 rfl dX10_enter_28 ?_
      refine lv_if_ne (tgt := 48) hx hb dX10_enter_31 (by decide) (fun c_31 => ?_) (fun c_31 => ?_)
      · have h := (if_neg c_31).symm.trans h
        exact J48 _ _ _ h hI (lv_sub hl [1, 2, 3] rfl)
      · have h := (if_pos c_31).symm.trans h
        refine lv_aload_n hx hb dX10_enter_34 rfl (lv_at hl 1 rfl) ?_
        refine g_get F hI (by decide) mE_0 rfl ku_X10 8 (by decide) kf_X10_26 rfl dX10_enter_35 ?_
        refine lv_iload_n hx hb dX10_enter_38 rfl (lv_at hl 2 rfl) ?_
        obtain ⟨g_39, h⟩ := g_guard h
        refine g_iald F hI (by decide) mE_a5 0 rfl g_39 dX10_enter_39 ?_
        refine lv_iconst (v := 2) hx hb dX10_enter_40 (by decide) ?_
        refine lv_icmp_lt (tgt := 48) hx hb dX10_enter_41 (by decide) (fun c_41 => ?_) (fun c_41 => ?_)
        · have h := (if_pos c_41).symm.trans h
          exact J48 _ _ _ h hI (lv_sub hl [1, 2, 3] rfl)
        · have h := (if_neg c_41).symm.trans h
          refine lv_iconst (v := 1) hx hb dX10_enter_44 (by decide) ?_
          refine lv_goto (tgt := 49) hx hb dX10_enter_45 (by decide) ?_
          exact J49 _ _ _ _ h hI (lv_sub hl [1, 2, 3] rfl)
/-- SpurlineModel.next(II)I -/
def f_X10_next (N : Nat) (σ : gSt) (x1 x2 : Int32) : Option Int32 :=
  gLoop3 (fun self8 (v3_8 : Int32) (v4_8 : Int32) (v5_8 : Int32) =>
    if σ.2 3 ≤ v5_8 then
      some v3_8
    else
      if v5_8 < 0 ∨ 24 ≤ v5_8.toNatClampNeg then none else
      gJoin2 (fun (v3_128 : Int32) (v4_128 : Int32) =>
          self8 v3_128 v4_128 (v5_8 + 1)) (fun j128 =>
        if g_ga σ 6 v5_8 = x1 then
          if v5_8 < 0 ∨ 24 ≤ v5_8.toNatClampNeg then none else
          if g_ga σ 8 v5_8 = (-1) then
            if v5_8 < 0 ∨ 24 ≤ v5_8.toNatClampNeg then none else
            gJoin1 (fun (w0_55 : Int32) =>
                gJoin1 (fun (w0_100 : Int32) =>
                    gJoin1 (fun (w0_113 : Int32) =>
                        gJoin1 (fun (w0_126 : Int32) =>
                            j128 w0_113 w0_126) (fun j126 =>
                          if w0_100 = 0 then
                            j126 v4_8
                          else
                            j126 w0_55)) (fun j113 =>
                      if w0_100 = 0 then
                        j113 v3_8
                      else
                        j113 v5_8)) (fun j100 =>
                gJoin0 (
                    j100 1) (fun j95 =>
                  if v3_8 = (-1) then
                    j95
                  else
                    gJoin0 (
                        gJoin0 (
                            j100 0) (fun j99 =>
                          if w0_55 = v4_8 then
                            if v5_8 < 0 ∨ 24 ≤ v5_8.toNatClampNeg then none else
                            if v3_8 < 0 ∨ 24 ≤ v3_8.toNatClampNeg then none else
                            if g_ga σ 17 v3_8 ≤ g_ga σ 17 v5_8 then
                              j99
                            else
                              j95
                          else
                            j99)) (fun j72 =>
                      if w0_55 = 0 then
                        j72
                      else
                        if v4_8 = 0 then
                          j95
                        else
                          j72)))) (fun j55 =>
              if g_ga σ 7 v5_8 = x2 then
                j55 0
              else
                j55 1)
          else
            j128 v3_8 v4_8
        else
          j128 v3_8 v4_8)) N (-1) 0 0
abbrev rmX10_next : Room := { frames := 0, cells := 0, slots := 0, locals := 0 }
theorem kb_X10_next : g_CB yX10_next cX10_next 8 (some .int) 2 := ⟨kc_X10_next, kn_X10, by decide +kernel⟩
set_option maxRecDepth 100000 in
set_option maxHeartbeats 4000000 in
theorem c_X10_next (l : Launch) (D : va_G) (a : Nat → Nat) (cI cZ : ClassId) (hj : g_Inj 21 a) (N : Nat) (σ : gSt) (x1 x2 : Int32) (out : Int32) (hh : f_X10_next N σ x1 x2 = some out) : Met l yX10_next (Cond.code yX10_next cX10_next 8 (some .int) :: gW) rmX10_next (g_Pc 21 D a (mE a cI cZ σ) [(cI, .int), (cZ, .boolean)] [.ref (a 0), .int x1, .int x2]) (g_Qi 21 D a (mE a cI cZ σ) out) 0 0 (g_Own 21 a) := by
  refine g_meti (by decide) hj (Nat.le_of_ble_eq_true rfl) ?_
  intro p e s m args below meth c Q ls F hl hI hq
  have hx := F.1.1
  have hb := F.1.2.1
  have hl : lv_has ls 8 [(0, .ref (a 0)), (1, .int x1), (2, .int x2)] := hl
  have h := hh
  unfold f_X10_next at h
  refine lv_iconst (v := -1) hx hb dX10_next_0 (by decide) ?_
  refine lv_istore_n (lv' := [(3, .int (-1)), (0, .ref (a 0)), (1, .int x1), (2, .int x2)]) hx hb dX10_next_1 rfl hl (by decide) rfl (fun ls hl => ?_)
  refine lv_iconst (v := 0) hx hb dX10_next_2 (by decide) ?_
  refine lv_istore (lv' := [(4, .int 0), (3, .int (-1)), (0, .ref (a 0)), (1, .int x1), (2, .int x2)]) hx hb dX10_next_3 hl (by decide) rfl (fun ls hl => ?_)
  refine lv_iconst (v := 0) hx hb dX10_next_5 (by decide) ?_
  refine lv_istore (lv' := [(5, .int 0), (4, .int 0), (3, .int (-1)), (0, .ref (a 0)), (1, .int x1), (2, .int x2)]) hx hb dX10_next_6 hl (by decide) rfl (fun ls hl => ?_)
  obtain ⟨lp8, hz8, hs8, h⟩ := gLoop3_in h
  have L8 : ∀ (n : Nat) (v3_8 : Int32) (v4_8 : Int32) (v5_8 : Int32) (H : Heap) (locs : List Loc) (ls : Array Slot), lp8 n v3_8 v4_8 v5_8 = some out → g_S 21 D a (mE a cI cZ σ) s.heap H locs → lv_has ls 8 [(0, .ref (a 0)), (1, .int x1), (2, .int x2), (3, .int v3_8), (4, .int v4_8), (5, .int v5_8)] → W p l e rmX10_next s m args below meth c H locs 0 0 Q (F0 m 8 ls []) := by
    intro n
    induction n with
    | zero => intro v3_8 v4_8 v5_8 H locs ls h; rw [hz8] at h; cases h
    | succ n ih8 =>
      intro v3_8 v4_8 v5_8 H locs ls h hI hl
      rw [hs8] at h
      refine lv_iload hx hb dX10_next_8 (lv_at hl 5 rfl) ?_
      refine lv_aload_n hx hb dX10_next_10 rfl (lv_at hl 0 rfl) ?_
      refine g_get F hI (by decide) mE_0 rfl ku_X10 15 (by decide) kf_X10_88 rfl dX10_next_11 ?_
      refine lv_icmp_ge (tgt := 134) hx hb dX10_next_14 (by decide) (fun c_14 => ?_) (fun c_14 => ?_)
      · have h := (if_pos c_14).symm.trans h
        refine lv_iload_n hx hb dX10_next_134 rfl (lv_at hl 3 rfl) ?_
        have h := Option.some.inj h
        subst h
        exact hq _ _ _ _ hI dX10_next_135
      · have h := (if_neg c_14).symm.trans h
        refine lv_aload_n hx hb dX10_next_17 rfl (lv_at hl 0 rfl) ?_
        refine g_get F hI (by decide) mE_0 rfl ku_X10 9 (by decide) kf_X10_29 rfl dX10_next_18 ?_
        refine lv_iload hx hb dX10_next_21 (lv_at hl 5 rfl) ?_
        obtain ⟨g_23, h⟩ := g_guard h
        refine g_iald F hI (by decide) mE_a6 0 rfl g_23 dX10_next_23 ?_
        refine lv_iload_n hx hb dX10_next_24 rfl (lv_at hl 1 rfl) ?_
        obtain ⟨j128, hj128, h⟩ := gJoin2_in h
        have J128 : ∀ (v3_128 : Int32) (v4_128 : Int32) (H : Heap) (locs : List Loc) (ls : Array Slot), j128 v3_128 v4_128 = some out → g_S 21 D a (mE a cI cZ σ) s.heap H locs → lv_has ls 8 [(0, .ref (a 0)), (1, .int x1), (2, .int x2), (3, .int v3_128), (4, .int v4_128), (5, .int v5_8)] → W p l e rmX10_next s m args below meth c H locs 0 0 Q (F0 m 128 ls []) := by
          intro v3_128 v4_128 H locs ls h hI hl
          rw [hj128] at h
          refine lv_iinc (v := v5_8 + 1) (lv' := [(5, .int (v5_8 + 1)), (0, .ref (a 0)), (1, .int x1), (2, .int x2), (3, .int v3_128), (4, .int v4_128)]) hx hb dX10_next_128 hl (k := 5) rfl rfl (by decide) rfl (fun ls hl => ?_)
          refine lv_goto (tgt := 8) hx hb dX10_next_131 (by decide) ?_
          exact ih8 _ _ _ _ _ _ h hI (lv_sub hl [1, 2, 3, 4, 5, 0] rfl)
        refine lv_icmp_ne (tgt := 128) hx hb dX10_next_25 (by decide) (fun c_25 => ?_) (fun c_25 => ?_)
        · have h := (if_neg c_25).symm.trans h
          exact J128 _ _ _ _ _ h hI (lv_sub hl [0, 1, 2, 3, 4, 5] rfl)
        · have h := (if_pos c_25).symm.trans h
          refine lv_aload_n hx hb dX10_next_28 rfl (lv_at hl 0 rfl) ?_
          refine g_get F hI (by decide) mE_0 rfl ku_X10 11 (by decide) kf_X10_35 rfl dX10_next_29 ?_
          refine lv_iload hx hb dX10_next_32 (lv_at hl 5 rfl) ?_
          obtain ⟨g_34, h⟩ := g_guard h
          refine g_iald F hI (by decide) mE_a8 0 rfl g_34 dX10_next_34 ?_
          refine lv_iconst (v := -1) hx hb dX10_next_35 (by decide) ?_
          refine lv_icmp_ne (tgt := 128) hx hb dX10_next_36 (by decide) (fun c_36 => ?_) (fun c_36 => ?_)
          · have h := (if_neg c_36).symm.trans h
            exact J128 _ _ _ _ _ h hI (lv_sub hl [0, 1, 2, 3, 4, 5] rfl)
          · have h := (if_pos c_36).symm.trans h
            refine lv_aload_n hx hb dX10_next_39 rfl (lv_at hl 0 rfl) ?_
            refine g_get F hI (by decide) mE_0 rfl ku_X10 10 (by decide) kf_X10_32 rfl dX10_next_40 ?_
            refine lv_iload hx hb dX10_next_43 (lv_at hl 5 rfl) ?_
            obtain ⟨g_45, h⟩ := g_guard h
            refine g_iald F hI (by decide) mE_a7 0 rfl g_45 dX10_next_45 ?_
            refine lv_iload_n hx hb dX10_next_46 rfl (lv_at hl 2 rfl) ?_
            obtain ⟨j55, hj55, h⟩ := gJoin1_in h
            have J55 : ∀ (w0_55 : Int32) (H : Heap) (locs : List Loc) (ls : Array Slot), j55 w0_55 = some out → g_S 21 D a (mE a cI cZ σ) s.heap H locs → lv_has ls 8 [(0, .ref (a 0)), (1, .int x1), (2, .int x2), (3, .int v3_8), (4, .int v4_8), (5, .int v5_8)] → W p l e rmX10_next s m args below meth c H locs 0 0 Q (F0 m 55 ls [.int w0_55]) := by
              intro w0_55 H locs ls h hI hl
              rw [hj55] at h
              refine lv_istore (lv' := [(6, .int w0_55), (0, .ref (a 0)), (1, .int x1), (2, .int x2), (3, .int v3_8), (4, .int v4_8), (5, .int v5_8)]) hx hb dX10_next_55 hl (by decide) rfl (fun ls hl => ?_)
              refine lv_iload_n hx hb dX10_next_57 rfl (lv_at hl 4 rfl) ?_
              refine lv_iconst (v := -1) hx hb dX10_next_58 (by decide) ?_
              obtain ⟨j100, hj100, h⟩ := gJoin1_in h
              have J100 : ∀ (w0_100 : Int32) (H : Heap) (locs : List Loc) (ls : Array Slot), j100 w0_100 = some out → g_S 21 D a (mE a cI cZ σ) s.heap H locs → lv_has ls 8 [(0, .ref (a 0)), (1, .int x1), (2, .int x2), (3, .int v3_8), (4, .int v4_8), (5, .int v5_8), (6, .int w0_55)] → W p l e rmX10_next s m args below meth c H locs 0 0 Q (F0 m 100 ls [.int w0_100]) := by
                intro w0_100 H locs ls h hI hl
                rw [hj100] at h
                refine lv_istore (lv' := [(7, .int w0_100), (0, .ref (a 0)), (1, .int x1), (2, .int x2), (3, .int v3_8), (4, .int v4_8), (5, .int v5_8), (6, .int w0_55)]) hx hb dX10_next_100 hl (by decide) rfl (fun ls hl => ?_)
                refine lv_iload hx hb dX10_next_102 (lv_at hl 0 rfl) ?_
                obtain ⟨j113, hj113, h⟩ := gJoin1_in h
                have J113 : ∀ (w0_113 : Int32) (H : Heap) (locs : List Loc) (ls : Array Slot), j113 w0_113 = some out → g_S 21 D a (mE a cI cZ σ) s.heap H locs → lv_has ls 8 [(0, .ref (a 0)), (1, .int x1), (2, .int x2), (4, .int v4_8), (5, .int v5_8), (6, .int w0_55), (7, .int w0_100)] → W p l e rmX10_next s m args below meth c H locs 0 0 Q (F0 m 113 ls [.int w0_113]) := by
                  intro w0_113 H locs ls h hI hl
                  rw [hj113] at h
                  refine lv_istore_n (lv' := [(3, .int w0_113), (0, .ref (a 0)), (1, .int x1), (2, .int x2), (4, .int v4_8), (5, .int v5_8), (6, .int w0_55), (7, .int w0_100)]) hx hb dX10_next_113 rfl hl (by decide) rfl (fun ls hl => ?_)
                  refine lv_iload hx hb dX10_next_114 (lv_at hl 7 rfl) ?_
                  obtain ⟨j126, hj126, h⟩ := gJoin1_in h
                  have J126 : ∀ (w0_126 : Int32) (H : Heap) (locs : List Loc) (ls : Array Slot), j126 w0_126 = some out → g_S 21 D a (mE a cI cZ σ) s.heap H locs → lv_has ls 8 [(0, .ref (a 0)), (1, .int x1), (2, .int x2), (3, .int w0_113), (5, .int v5_8)] → W p l e rmX10_next s m args below meth c H locs 0 0 Q (F0 m 126 ls [.int w0_126]) := by
                    intro w0_126 H locs ls h hI hl
                    rw [hj126] at h
                    refine lv_istore (lv' := [(4, .int w0_126), (0, .ref (a 0)), (1, .int x1), (2, .int x2), (3, .int w0_113), (5, .int v5_8)]) hx hb dX10_next_126 hl (by decide) rfl (fun ls hl => ?_)
                    exact J128 _ _ _ _ _ h hI (lv_sub hl [1, 2, 3, 4, 0, 5] rfl)
                  refine lv_if_eq (tgt := 124) hx hb dX10_next_116 (by decide) (fun c_116 => ?_) (fun c_116 => ?_)
                  · have h := (if_pos c_116).symm.trans h
                    refine lv_iload hx hb dX10_next_124 (lv_at hl 4 rfl) ?_
                    exact J126 _ _ _ _ h hI (lv_sub hl [1, 2, 3, 0, 5] rfl)
                  · have h := (if_neg c_116).symm.trans h
                    refine lv_iload hx hb dX10_next_119 (lv_at hl 6 rfl) ?_
                    refine lv_goto (tgt := 126) hx hb dX10_next_121 (by decide) ?_
                    exact J126 _ _ _ _ h hI (lv_sub hl [1, 2, 3, 0, 5] rfl)
                refine lv_if_eq (tgt := 112) hx hb dX10_next_104 (by decide) (fun c_104 => ?_) (fun c_104 => ?_)
                · have h := (if_pos c_104).symm.trans h
                  refine lv_iload_n hx hb dX10_next_112 rfl (lv_at hl 4 rfl) ?_
                  exact J113 _ _ _ _ h hI (lv_sub hl [1, 2, 3, 5, 6, 7, 0] rfl)
                · have h := (if_neg c_104).symm.trans h
                  refine lv_iload hx hb dX10_next_107 (lv_at hl 6 rfl) ?_
                  refine lv_goto (tgt := 113) hx hb dX10_next_109 (by decide) ?_
                  exact J113 _ _ _ _ h hI (lv_sub hl [1, 2, 3, 5, 6, 7, 0] rfl)
              obtain ⟨j95, hj95, h⟩ := gJoin0_in h
              have J95 : ∀ (H : Heap) (locs : List Loc) (ls : Array Slot), j95  = some out → g_S 21 D a (mE a cI cZ σ) s.heap H locs → lv_has ls 8 [(0, .ref (a 0)), (1, .int x1), (2, .int x2), (3, .int v3_8), (4, .int v4_8), (5, .int v5_8), (6, .int w0_55)] → W p l e rmX10_next s m args below meth c H locs 0 0 Q (F0 m 95 ls []) := by
                intro  H locs ls h hI hl
                rw [hj95] at h
                refine lv_iconst (v := 1) hx hb dX10_next_95 (by decide) ?_
                refine lv_goto (tgt := 100) hx hb dX10_next_96 (by decide) ?_
                exact J100 _ _ _ _ h hI (lv_sub hl [0, 1, 2, 3, 4, 5, 6] rfl)
              refine lv_icmp_eq (tgt := 95) hx hb dX10_next_59 (by decide) (fun c_59 => ?_) (fun c_59 => ?_)
              · have h := (if_pos c_59).symm.trans h
                exact J95 _ _ _ h hI (lv_sub hl [1, 2, 3, 4, 5, 6, 0] rfl)
              · have h := (if_neg c_59).symm.trans h
                refine lv_iload hx hb dX10_next_62 (lv_at hl 0 rfl) ?_
                obtain ⟨j72, hj72, h⟩ := gJoin0_in h
                have J72 : ∀ (H : Heap) (locs : List Loc) (ls : Array Slot), j72  = some out → g_S 21 D a (mE a cI cZ σ) s.heap H locs → lv_has ls 8 [(0, .ref (a 0)), (1, .int x1), (2, .int x2), (3, .int v3_8), (4, .int v4_8), (5, .int v5_8), (6, .int w0_55)] → W p l e rmX10_next s m args below meth c H locs 0 0 Q (F0 m 72 ls []) := by
                  intro  H locs ls h hI hl
                  rw [hj72] at h
                  refine lv_iload hx hb dX10_next_72 (lv_at hl 6 rfl) ?_
                  refine lv_iload hx hb dX10_next_74 (lv_at hl 4 rfl) ?_
                  obtain ⟨j99, hj99, h⟩ := gJoin0_in h
                  have J99 : ∀ (H : Heap) (locs : List Loc) (ls : Array Slot), j99  = some out → g_S 21 D a (mE a cI cZ σ) s.heap H locs → lv_has ls 8 [(0, .ref (a 0)), (1, .int x1), (2, .int x2), (3, .int v3_8), (4, .int v4_8), (5, .int v5_8), (6, .int w0_55)] → W p l e rmX10_next s m args below meth c H locs 0 0 Q (F0 m 99 ls []) := by
                    intro  H locs ls h hI hl
                    rw [hj99] at h
                    refine lv_iconst (v := 0) hx hb dX10_next_99 (by decide) ?_
                    exact J100 _ _ _ _ h hI (lv_sub hl [0, 1, 2, 3, 4, 5, 6] rfl)
                  refine lv_icmp_ne (tgt := 99) hx hb dX10_next_76 (by decide) (fun c_76 => ?_) (fun c_76 => ?_)
                  · have h := (if_neg c_76).symm.trans h
                    exact J99 _ _ _ h hI (lv_sub hl [0, 1, 2, 3, 4, 5, 6] rfl)
                  · have h := (if_pos c_76).symm.trans h
                    refine lv_aload_n hx hb dX10_next_79 rfl (lv_at hl 0 rfl) ?_
                    refine g_get F hI (by decide) mE_0 rfl ku_X10 23 (by decide) kf_X10_62 rfl dX10_next_80 ?_
                    refine lv_iload hx hb dX10_next_83 (lv_at hl 5 rfl) ?_
                    obtain ⟨g_85, h⟩ := g_guard h
                    refine g_iald F hI (by decide) mE_a17 0 rfl g_85 dX10_next_85 ?_
                    refine lv_aload_n hx hb dX10_next_86 rfl (lv_at hl 0 rfl) ?_
                    refine g_get F hI (by decide) mE_0 rfl ku_X10 23 (by decide) kf_X10_62 rfl dX10_next_87 ?_
                    refine lv_iload_n hx hb dX10_next_90 rfl (lv_at hl 3 rfl) ?_
                    obtain ⟨g_91, h⟩ := g_guard h
                    refine g_iald F hI (by decide) mE_a17 0 rfl g_91 dX10_next_91 ?_
                    refine lv_icmp_ge (tgt := 99) hx hb dX10_next_92 (by decide) (fun c_92 => ?_) (fun c_92 => ?_)
                    · have h := (if_pos c_92).symm.trans h
                      exact J99 _ _ _ h hI (lv_sub hl [0, 1, 2, 3, 4, 5, 6] rfl)
                    · have h := (if_neg c_92).symm.trans h
                      exact J95 _ _ _ h hI (lv_sub hl [0, 1, 2, 3, 4, 5, 6] rfl)
                refine lv_if_eq (tgt := 72) hx hb dX10_next_64 (by decide) (fun c_64 => ?_) (fun c_64 => ?_)
                · have h := (if_pos c_64).symm.trans h
                  exact J72 _ _ _ h hI (lv_sub hl [1, 2, 3, 4, 5, 6, 0] rfl)
                · have h := (if_neg c_64).symm.trans h
                  refine lv_iload hx hb dX10_next_67 (lv_at hl 5 rfl) ?_
                  refine lv_if_eq (tgt := 95) hx hb dX10_next_69 (by decide) (fun c_69 => ?_) (fun c_69 => ?_)
                  · have h := (if_pos c_69).symm.trans h
                    exact J95 _ _ _ h hI (lv_sub hl [1, 2, 3, 4, 5, 6, 0] rfl)
                  · have h := (if_neg c_69).symm.trans h
                    exact J72 _ _ _ h hI (lv_sub hl [1, 2, 3, 4, 5, 6, 0] rfl)
            refine lv_icmp_eq (tgt := 54) hx hb dX10_next_47 (by decide) (fun c_47 => ?_) (fun c_47 => ?_)
            · have h := (if_pos c_47).symm.trans h
              refine lv_iconst (v := 0) hx hb dX10_next_54 (by decide) ?_
              exact J55 _ _ _ _ h hI (lv_sub hl [0, 1, 2, 3, 4, 5] rfl)
            · have h := (if_neg c_47).symm.trans h
              refine lv_iconst (v := 1) hx hb dX10_next_50 (by decide) ?_
              refine lv_goto (tgt := 55) hx hb dX10_next_51 (by decide) ?_
              exact J55 _ _ _ _ h hI (lv_sub hl [0, 1, 2, 3, 4, 5] rfl)
  exact L8 _ _ _ _ _ _ _ h hI (lv_sub hl [3, 4, 5, 2, 1, 0] rfl)
/-- SpurlineModel.draw(II)I -/
def f_X10_draw (N : Nat) (σ : gSt) (x1 x2 : Int32) : Option (Int32 × gSt) :=
  gJoin1 (fun (w0_27 : Int32) =>
      gJoin1 (fun (w0_46 : Int32) =>
          if (f_X10_asked_ σ w0_27 w0_46).1 = 0 then
            some (0, (f_X10_asked_ σ w0_27 w0_46).2)
          else
            gLoop3 (fun self59 (v3_59 : Int32) (v4_59 : Int32) (s_59 : gSt) =>
              if s_59.2 3 ≤ v4_59 then
                gLoop3 (fun self107 (v4_107 : Int32) (v5_107 : Int32) (s_107 : gSt) =>
                  if 5 ≤ v5_107 then
                    some (v4_107, s_107)
                  else
                    (f_X10_next N s_107 v5_107 (-1)).bind (fun (r_120 : Int32) =>
                    gLoop4 (fun self125 (v4_125 : Int32) (v6_125 : Int32) (v7_125 : Int32) (s_125 : gSt) =>
                      if v7_125 = (-1) then
                        self107 v4_125 (v5_107 + 1) s_125
                      else
                        if v7_125 < 0 ∨ 24 ≤ v7_125.toNatClampNeg then none else
                        gJoin1 (fun (w0_154 : Int32) =>
                            if v7_125 < 0 ∨ 24 ≤ v7_125.toNatClampNeg then none else
                            (f_X10_next N (g_pa s_125 8 v7_125 v6_125) v5_107 (g_ga (g_pa s_125 8 v7_125 v6_125) 7 v7_125)).bind (fun (r_172 : Int32) =>
                            self125 w0_154 (v6_125 + x2) r_172 (g_pa s_125 8 v7_125 v6_125))) (fun j154 =>
                          if v6_125 ≤ v4_125 then
                            j154 v4_125
                          else
                            j154 v6_125)) N v4_107 0 r_120 s_107)) N 0 0 (g_sf s_59 4 1)
              else
                if v4_59 < 0 ∨ 24 ≤ v4_59.toNatClampNeg then none else
                self59 (((421 * v3_59) + 1663) - ((421 * v3_59) + 1663) / 7875 * 7875) (v4_59 + 1) (g_pa s_59 17 v4_59 (((421 * v3_59) + 1663) - ((421 * v3_59) + 1663) / 7875 * 7875))) N x1 0 ((f_X10_asked_ σ w0_27 w0_46).2)) (fun j46 =>
      gJoin0 (
          j46 0) (fun j45 =>
        if σ.2 3 ≤ 0 then
          j45
        else
          if σ.2 4 = 0 then
            j46 1
          else
            j45))) (fun j27 =>
  gJoin0 (
      j27 0) (fun j26 =>
    if f_X10_in x1 0 7874 = 0 then
      j26
    else
      if f_X10_in x2 1 10 = 0 then
        j26
      else
        j27 1))
abbrev rmX10_draw : Room := { frames := 1, cells := 0, slots := 0, locals := 27 }
theorem kb_X10_draw : g_CB yX10_draw cX10_draw 8 (some .int) 2 := ⟨kc_X10_draw, kn_X10, by decide +kernel⟩
set_option maxRecDepth 100000 in
set_option maxHeartbeats 4000000 in
theorem c_X10_draw (l : Launch) (D : va_G) (a : Nat → Nat) (cI cZ : ClassId) (hj : g_Inj 21 a) (N : Nat) (σ : gSt) (x1 x2 : Int32) (out : Int32 × gSt) (hh : f_X10_draw N σ x1 x2 = some out) : Met l yX10_draw (Cond.code yX10_draw cX10_draw 8 (some .int) :: gW) rmX10_draw (g_Pc 21 D a (mE a cI cZ σ) [(cI, .int), (cZ, .boolean)] [.ref (a 0), .int x1, .int x2]) (g_Qi 21 D a (mE a cI cZ out.2) out.1) 0 0 (g_Own 21 a) := by
  refine g_meti (by decide) hj (Nat.le_of_ble_eq_true rfl) ?_
  intro p e s m args below meth c Q ls F hl hI hq
  have hx := F.1.1
  have hb := F.1.2.1
  have hl : lv_has ls 8 [(0, .ref (a 0)), (1, .int x1), (2, .int x2)] := hl
  have h := hh
  unfold f_X10_draw at h
  refine lv_aload_n hx hb dX10_draw_0 rfl (lv_at hl 0 rfl) ?_
  refine lv_iload_n hx hb dX10_draw_1 rfl (lv_at hl 1 rfl) ?_
  refine lv_iconst (v := 0) hx hb dX10_draw_2 (by decide) ?_
  refine lv_sipush (v := 7874) hx hb dX10_draw_3 (by decide) ?_
  refine g_callSi (E' := mE a cI cZ σ) (As := [.int x1, .int 0, .int 7874]) (rest := [.ref (a 0)]) F hI (c_X10_in l D a cI cZ F.2.2 σ x1 0 7874) kb_X10_in kt_X10_in km_X10_81 ⟨Nat.le_of_ble_eq_true rfl, Nat.le_of_ble_eq_true rfl, rfl, rfl⟩ hl.1 rfl (Nat.le_of_ble_eq_true rfl) ⟨Nat.zero_le _, Nat.zero_le _⟩ dX10_draw_6 (fun H locs hI => ?_)
  obtain ⟨j27, hj27, h⟩ := gJoin1_in h
  have J27 : ∀ (w0_27 : Int32) (H : Heap) (locs : List Loc) (ls : Array Slot), j27 w0_27 = some out → g_S 21 D a (mE a cI cZ σ) s.heap H locs → lv_has ls 8 [(0, .ref (a 0)), (1, .int x1), (2, .int x2)] → W p l e rmX10_draw s m args below meth c H locs 0 0 Q (F0 m 27 ls [.int w0_27, .ref (a 0)]) := by
    intro w0_27 H locs ls h hI hl
    rw [hj27] at h
    refine lv_aload_n hx hb dX10_draw_27 rfl (lv_at hl 0 rfl) ?_
    refine g_get F hI (by decide) mE_0 rfl ku_X10 15 (by decide) kf_X10_88 rfl dX10_draw_28 ?_
    obtain ⟨j46, hj46, h⟩ := gJoin1_in h
    have J46 : ∀ (w0_46 : Int32) (H : Heap) (locs : List Loc) (ls : Array Slot), j46 w0_46 = some out → g_S 21 D a (mE a cI cZ σ) s.heap H locs → lv_has ls 8 [(0, .ref (a 0)), (1, .int x1), (2, .int x2)] → W p l e rmX10_draw s m args below meth c H locs 0 0 Q (F0 m 46 ls [.int w0_46, .int w0_27, .ref (a 0)]) := by
      intro w0_46 H locs ls h hI hl
      rw [hj46] at h
      refine g_callVi (E' := mE a cI cZ ((f_X10_asked_ σ w0_27 w0_46).2)) (k0 := 0) (As := [.int w0_27, .int w0_46]) (rest := []) F hI (c_X10_asked_ l D a cI cZ F.2.2 σ w0_27 w0_46) kb_X10_asked_ ki_X10_asked_ ks_X10_asked_ km_X10_95 ⟨Nat.le_of_ble_eq_true rfl, Nat.le_of_ble_eq_true rfl, rfl, rfl⟩ (by decide) mE_0 rfl hl.1 rfl (Nat.le_of_ble_eq_true rfl) ⟨Nat.zero_le _, Nat.zero_le _⟩ dX10_draw_46 (fun H locs hI => ?_)
      refine lv_if_ne (tgt := 54) hx hb dX10_draw_49 (by decide) (fun c_49 => ?_) (fun c_49 => ?_)
      · have h := (if_neg c_49).symm.trans h
        refine lv_iload_n hx hb dX10_draw_54 rfl (lv_at hl 1 rfl) ?_
        refine lv_istore_n (lv' := [(3, .int x1), (0, .ref (a 0)), (1, .int x1), (2, .int x2)]) hx hb dX10_draw_55 rfl hl (by decide) rfl (fun ls hl => ?_)
        refine lv_iconst (v := 0) hx hb dX10_draw_56 (by decide) ?_
        refine lv_istore (lv' := [(4, .int 0), (3, .int x1), (0, .ref (a 0)), (1, .int x1), (2, .int x2)]) hx hb dX10_draw_57 hl (by decide) rfl (fun ls hl => ?_)
        obtain ⟨lp59, hz59, hs59, h⟩ := gLoop3_in h
        have L59 : ∀ (n : Nat) (v3_59 : Int32) (v4_59 : Int32) (s_59 : gSt) (H : Heap) (locs : List Loc) (ls : Array Slot), lp59 n v3_59 v4_59 s_59 = some out → g_S 21 D a (mE a cI cZ s_59) s.heap H locs → lv_has ls 8 [(0, .ref (a 0)), (2, .int x2), (3, .int v3_59), (4, .int v4_59)] → W p l e rmX10_draw s m args below meth c H locs 0 0 Q (F0 m 59 ls []) := by
          intro n
          induction n with
          | zero => intro v3_59 v4_59 s_59 H locs ls h; rw [hz59] at h; cases h
          | succ n ih59 =>
            intro v3_59 v4_59 s_59 H locs ls h hI hl
            rw [hs59] at h
            refine lv_iload hx hb dX10_draw_59 (lv_at hl 3 rfl) ?_
            refine lv_aload_n hx hb dX10_draw_61 rfl (lv_at hl 0 rfl) ?_
            refine g_get F hI (by decide) mE_0 rfl ku_X10 15 (by decide) kf_X10_88 rfl dX10_draw_62 ?_
            refine lv_icmp_ge (tgt := 96) hx hb dX10_draw_65 (by decide) (fun c_65 => ?_) (fun c_65 => ?_)
            · have h := (if_pos c_65).symm.trans h
              refine lv_aload_n hx hb dX10_draw_96 rfl (lv_at hl 0 rfl) ?_
              refine lv_iconst (v := 1) hx hb dX10_draw_97 (by decide) ?_
              refine g_put (E' := mE a cI cZ (g_sf s_59 4 1)) F hI (by decide) mE_0 rfl ku_X10 tyX10_ok nmX10 16 (by decide) kf_X10_151 rfl rfl rfl rfl (Nat.le_of_ble_eq_true rfl) rfl mE_sf dX10_draw_98 (fun H locs hI => ?_)
              refine lv_iconst (v := 0) hx hb dX10_draw_101 (by decide) ?_
              refine lv_istore (lv' := [(4, .int 0), (0, .ref (a 0)), (2, .int x2), (3, .int v3_59)]) hx hb dX10_draw_102 hl (by decide) rfl (fun ls hl => ?_)
              refine lv_iconst (v := 0) hx hb dX10_draw_104 (by decide) ?_
              refine lv_istore (lv' := [(5, .int 0), (4, .int 0), (0, .ref (a 0)), (2, .int x2), (3, .int v3_59)]) hx hb dX10_draw_105 hl (by decide) rfl (fun ls hl => ?_)
              obtain ⟨lp107, hz107, hs107, h⟩ := gLoop3_in h
              have L107 : ∀ (n : Nat) (v4_107 : Int32) (v5_107 : Int32) (s_107 : gSt) (H : Heap) (locs : List Loc) (ls : Array Slot), lp107 n v4_107 v5_107 s_107 = some out → g_S 21 D a (mE a cI cZ s_107) s.heap H locs → lv_has ls 8 [(0, .ref (a 0)), (2, .int x2), (4, .int v4_107), (5, .int v5_107)] → W p l e rmX10_draw s m args below meth c H locs 0 0 Q (F0 m 107 ls []) := by
                intro n
                induction n with
                | zero => intro v4_107 v5_107 s_107 H locs ls h; rw [hz107] at h; cases h
                | succ n ih107 =>
                  intro v4_107 v5_107 s_107 H locs ls h hI hl
                  rw [hs107] at h
                  refine lv_iload hx hb dX10_draw_107 (lv_at hl 3 rfl) ?_
                  refine lv_iconst (v := 5) hx hb dX10_draw_109 (by decide) ?_
                  refine lv_icmp_ge (tgt := 186) hx hb dX10_draw_110 (by decide) (fun c_110 => ?_) (fun c_110 => ?_)
                  · have h := (if_pos c_110).symm.trans h
                    refine lv_iload hx hb dX10_draw_186 (lv_at hl 2 rfl) ?_
                    have h := Option.some.inj h
                    subst h
                    exact hq _ _ _ _ hI dX10_draw_188
                  · have h := (if_neg c_110).symm.trans h
                    refine lv_iconst (v := 0) hx hb dX10_draw_113 (by decide) ?_
                    refine lv_istore (lv' := [(6, .int 0), (0, .ref (a 0)), (2, .int x2), (4, .int v4_107), (5, .int v5_107)]) hx hb dX10_draw_114 hl (by decide) rfl (fun ls hl => ?_)
                    refine lv_aload_n hx hb dX10_draw_116 rfl (lv_at hl 1 rfl) ?_
                    refine lv_iload hx hb dX10_draw_117 (lv_at hl 4 rfl) ?_
                    refine lv_iconst (v := -1) hx hb dX10_draw_119 (by decide) ?_
                    obtain ⟨r_120, e_120, h⟩ := gBind_in h
                    refine g_callVi (E' := mE a cI cZ s_107) (k0 := 0) (As := [.int v5_107, .int (-1)]) (rest := []) F hI (c_X10_next l D a cI cZ F.2.2 N s_107 v5_107 (-1) r_120 e_120) kb_X10_next ki_X10_next ks_X10_next km_X10_171 ⟨Nat.le_of_ble_eq_true rfl, Nat.le_of_ble_eq_true rfl, rfl, rfl⟩ (by decide) mE_0 rfl hl.1 rfl (Nat.le_of_ble_eq_true rfl) ⟨Nat.zero_le _, Nat.zero_le _⟩ dX10_draw_120 (fun H locs hI => ?_)
                    refine lv_istore (lv' := [(7, .int r_120), (6, .int 0), (0, .ref (a 0)), (2, .int x2), (4, .int v4_107), (5, .int v5_107)]) hx hb dX10_draw_123 hl (by decide) rfl (fun ls hl => ?_)
                    obtain ⟨lp125, hz125, hs125, h⟩ := gLoop4_in h
                    have L125 : ∀ (n : Nat) (v4_125 : Int32) (v6_125 : Int32) (v7_125 : Int32) (s_125 : gSt) (H : Heap) (locs : List Loc) (ls : Array Slot), lp125 n v4_125 v6_125 v7_125 s_125 = some out → g_S 21 D a (mE a cI cZ s_125) s.heap H locs → lv_has ls 8 [(0, .ref (a 0)), (2, .int x2), (4, .int v4_125), (5, .int v5_107), (6, .int v6_125), (7, .int v7_125)] → W p l e rmX10_draw s m args below meth c H locs 0 0 Q (F0 m 125 ls []) := by
                      intro n
                      induction n with
                      | zero => intro v4_125 v6_125 v7_125 s_125 H locs ls h; rw [hz125] at h; cases h
                      | succ n ih125 =>
                        intro v4_125 v6_125 v7_125 s_125 H locs ls h hI hl
                        rw [hs125] at h
                        refine lv_iload hx hb dX10_draw_125 (lv_at hl 5 rfl) ?_
                        refine lv_iconst (v := -1) hx hb dX10_draw_127 (by decide) ?_
                        refine lv_icmp_eq (tgt := 180) hx hb dX10_draw_128 (by decide) (fun c_128 => ?_) (fun c_128 => ?_)
                        · have h := (if_pos c_128).symm.trans h
                          refine lv_iinc (v := v5_107 + 1) (lv' := [(5, .int (v5_107 + 1)), (0, .ref (a 0)), (2, .int x2), (4, .int v4_125), (6, .int v6_125), (7, .int v7_125)]) hx hb dX10_draw_180 hl (k := 3) rfl rfl (by decide) rfl (fun ls hl => ?_)
                          refine lv_goto (tgt := 107) hx hb dX10_draw_183 (by decide) ?_
                          exact ih107 _ _ _ _ _ _ h hI (lv_sub hl [1, 2, 3, 0] rfl)
                        · have h := (if_neg c_128).symm.trans h
                          refine lv_aload_n hx hb dX10_draw_131 rfl (lv_at hl 0 rfl) ?_
                          refine g_get F hI (by decide) mE_0 rfl ku_X10 11 (by decide) kf_X10_35 rfl dX10_draw_132 ?_
                          refine lv_iload hx hb dX10_draw_135 (lv_at hl 5 rfl) ?_
                          refine lv_iload hx hb dX10_draw_137 (lv_at hl 4 rfl) ?_
                          obtain ⟨g_139, h⟩ := g_guard h
                          refine g_iast (E' := mE a cI cZ (g_pa s_125 8 v7_125 v6_125)) F hI (by decide) mE_a8 0 rfl g_139 rfl mE_sa dX10_draw_139 (fun H locs hI => ?_)
                          refine lv_iload hx hb dX10_draw_140 (lv_at hl 4 rfl) ?_
                          refine lv_iload hx hb dX10_draw_142 (lv_at hl 2 rfl) ?_
                          obtain ⟨j154, hj154, h⟩ := gJoin1_in h
                          have J154 : ∀ (w0_154 : Int32) (H : Heap) (locs : List Loc) (ls : Array Slot), j154 w0_154 = some out → g_S 21 D a (mE a cI cZ (g_pa s_125 8 v7_125 v6_125)) s.heap H locs → lv_has ls 8 [(0, .ref (a 0)), (2, .int x2), (5, .int v5_107), (6, .int v6_125), (7, .int v7_125)] → W p l e rmX10_draw s m args below meth c H locs 0 0 Q (F0 m 154 ls [.int w0_154]) := by
                            intro w0_154 H locs ls h hI hl
                            rw [hj154] at h
                            refine lv_istore (lv' := [(4, .int w0_154), (0, .ref (a 0)), (2, .int x2), (5, .int v5_107), (6, .int v6_125), (7, .int v7_125)]) hx hb dX10_draw_154 hl (by decide) rfl (fun ls hl => ?_)
                            refine lv_iload hx hb dX10_draw_156 (lv_at hl 4 rfl) ?_
                            refine lv_iload_n hx hb dX10_draw_158 rfl (lv_at hl 2 rfl) ?_
                            refine lv_iadd hx hb dX10_draw_159 ?_
                            refine lv_istore (lv' := [(6, .int (v6_125 + x2)), (4, .int w0_154), (0, .ref (a 0)), (2, .int x2), (5, .int v5_107), (7, .int v7_125)]) hx hb dX10_draw_160 hl (by decide) rfl (fun ls hl => ?_)
                            refine lv_aload_n hx hb dX10_draw_162 rfl (lv_at hl 2 rfl) ?_
                            refine lv_iload hx hb dX10_draw_163 (lv_at hl 4 rfl) ?_
                            refine lv_aload_n hx hb dX10_draw_165 rfl (lv_at hl 2 rfl) ?_
                            refine g_get F hI (by decide) mE_0 rfl ku_X10 10 (by decide) kf_X10_32 rfl dX10_draw_166 ?_
                            refine lv_iload hx hb dX10_draw_169 (lv_at hl 5 rfl) ?_
                            obtain ⟨g_171, h⟩ := g_guard h
                            refine g_iald F hI (by decide) mE_a7 0 rfl g_171 dX10_draw_171 ?_
                            obtain ⟨r_172, e_172, h⟩ := gBind_in h
                            refine g_callVi (E' := mE a cI cZ (g_pa s_125 8 v7_125 v6_125)) (k0 := 0) (As := [.int v5_107, .int (g_ga (g_pa s_125 8 v7_125 v6_125) 7 v7_125)]) (rest := []) F hI (c_X10_next l D a cI cZ F.2.2 N (g_pa s_125 8 v7_125 v6_125) v5_107 (g_ga (g_pa s_125 8 v7_125 v6_125) 7 v7_125) r_172 e_172) kb_X10_next ki_X10_next ks_X10_next km_X10_171 ⟨Nat.le_of_ble_eq_true rfl, Nat.le_of_ble_eq_true rfl, rfl, rfl⟩ (by decide) mE_0 rfl hl.1 rfl (Nat.le_of_ble_eq_true rfl) ⟨Nat.zero_le _, Nat.zero_le _⟩ dX10_draw_172 (fun H locs hI => ?_)
                            refine lv_istore (lv' := [(7, .int r_172), (6, .int (v6_125 + x2)), (4, .int w0_154), (0, .ref (a 0)), (2, .int x2), (5, .int v5_107)]) hx hb dX10_draw_175 hl (by decide) rfl (fun ls hl => ?_)
                            refine lv_goto (tgt := 125) hx hb dX10_draw_177 (by decide) ?_
                            exact ih125 _ _ _ _ _ _ _ h hI (lv_sub hl [3, 4, 2, 5, 1, 0] rfl)
                          refine lv_icmp_le (tgt := 152) hx hb dX10_draw_144 (by decide) (fun c_144 => ?_) (fun c_144 => ?_)
                          · have h := (if_pos c_144).symm.trans h
                            refine lv_iload hx hb dX10_draw_152 (lv_at hl 2 rfl) ?_
                            exact J154 _ _ _ _ h hI (lv_sub hl [0, 1, 3, 4, 5] rfl)
                          · have h := (if_neg c_144).symm.trans h
                            refine lv_iload hx hb dX10_draw_147 (lv_at hl 4 rfl) ?_
                            refine lv_goto (tgt := 154) hx hb dX10_draw_149 (by decide) ?_
                            exact J154 _ _ _ _ h hI (lv_sub hl [0, 1, 3, 4, 5] rfl)
                    exact L125 _ _ _ _ _ _ _ _ h hI (lv_sub hl [2, 3, 4, 5, 1, 0] rfl)
              exact L107 _ _ _ _ _ _ _ h hI (lv_sub hl [2, 3, 1, 0] rfl)
            · have h := (if_neg c_65).symm.trans h
              refine lv_sipush (v := 421) hx hb dX10_draw_68 (by decide) ?_
              refine lv_iload_n hx hb dX10_draw_71 rfl (lv_at hl 2 rfl) ?_
              refine lv_imul hx hb dX10_draw_72 ?_
              refine lv_sipush (v := 1663) hx hb dX10_draw_73 (by decide) ?_
              refine lv_iadd hx hb dX10_draw_76 ?_
              refine lv_sipush (v := 7875) hx hb dX10_draw_77 (by decide) ?_
              refine lv_irem hx hb dX10_draw_80 (by decide) ?_
              refine lv_istore_n (lv' := [(3, .int (((421 * v3_59) + 1663) - ((421 * v3_59) + 1663) / 7875 * 7875)), (0, .ref (a 0)), (2, .int x2), (4, .int v4_59)]) hx hb dX10_draw_81 rfl hl (by decide) rfl (fun ls hl => ?_)
              refine lv_aload_n hx hb dX10_draw_82 rfl (lv_at hl 1 rfl) ?_
              refine g_get F hI (by decide) mE_0 rfl ku_X10 23 (by decide) kf_X10_62 rfl dX10_draw_83 ?_
              refine lv_iload hx hb dX10_draw_86 (lv_at hl 3 rfl) ?_
              refine lv_iload_n hx hb dX10_draw_88 rfl (lv_at hl 0 rfl) ?_
              obtain ⟨g_89, h⟩ := g_guard h
              refine g_iast (E' := mE a cI cZ (g_pa s_59 17 v4_59 (((421 * v3_59) + 1663) - ((421 * v3_59) + 1663) / 7875 * 7875))) F hI (by decide) mE_a17 0 rfl g_89 rfl mE_sa dX10_draw_89 (fun H locs hI => ?_)
              refine lv_iinc (v := v4_59 + 1) (lv' := [(4, .int (v4_59 + 1)), (3, .int (((421 * v3_59) + 1663) - ((421 * v3_59) + 1663) / 7875 * 7875)), (0, .ref (a 0)), (2, .int x2)]) hx hb dX10_draw_90 hl (k := 3) rfl rfl (by decide) rfl (fun ls hl => ?_)
              refine lv_goto (tgt := 59) hx hb dX10_draw_93 (by decide) ?_
              exact ih59 _ _ _ _ _ _ h hI (lv_sub hl [2, 3, 1, 0] rfl)
        exact L59 _ _ _ _ _ _ _ h hI (lv_sub hl [2, 4, 1, 0] rfl)
      · have h := (if_pos c_49).symm.trans h
        refine lv_iconst (v := 0) hx hb dX10_draw_52 (by decide) ?_
        have h := Option.some.inj h
        subst h
        exact hq _ _ _ _ hI dX10_draw_53
    obtain ⟨j45, hj45, h⟩ := gJoin0_in h
    have J45 : ∀ (H : Heap) (locs : List Loc) (ls : Array Slot), j45  = some out → g_S 21 D a (mE a cI cZ σ) s.heap H locs → lv_has ls 8 [(0, .ref (a 0)), (1, .int x1), (2, .int x2)] → W p l e rmX10_draw s m args below meth c H locs 0 0 Q (F0 m 45 ls [.int w0_27, .ref (a 0)]) := by
      intro  H locs ls h hI hl
      rw [hj45] at h
      refine lv_iconst (v := 0) hx hb dX10_draw_45 (by decide) ?_
      exact J46 _ _ _ _ h hI (lv_sub hl [0, 1, 2] rfl)
    refine lv_if_le (tgt := 45) hx hb dX10_draw_31 (by decide) (fun c_31 => ?_) (fun c_31 => ?_)
    · have h := (if_pos c_31).symm.trans h
      exact J45 _ _ _ h hI (lv_sub hl [0, 1, 2] rfl)
    · have h := (if_neg c_31).symm.trans h
      refine lv_aload_n hx hb dX10_draw_34 rfl (lv_at hl 0 rfl) ?_
      refine g_get F hI (by decide) mE_0 rfl ku_X10 16 (by decide) kf_X10_151 rfl dX10_draw_35 ?_
      refine lv_if_ne (tgt := 45) hx hb dX10_draw_38 (by decide) (fun c_38 => ?_) (fun c_38 => ?_)
      · have h := (if_neg c_38).symm.trans h
        exact J45 _ _ _ h hI (lv_sub hl [0, 1, 2] rfl)
      · have h := (if_pos c_38).symm.trans h
        refine lv_iconst (v := 1) hx hb dX10_draw_41 (by decide) ?_
        refine lv_goto (tgt := 46) hx hb dX10_draw_42 (by decide) ?_
        exact J46 _ _ _ _ h hI (lv_sub hl [0, 1, 2] rfl)
  obtain ⟨j26, hj26, h⟩ := gJoin0_in h
  have J26 : ∀ (H : Heap) (locs : List Loc) (ls : Array Slot), j26  = some out → g_S 21 D a (mE a cI cZ σ) s.heap H locs → lv_has ls 8 [(0, .ref (a 0)), (1, .int x1), (2, .int x2)] → W p l e rmX10_draw s m args below meth c H locs 0 0 Q (F0 m 26 ls [.ref (a 0)]) := by
    intro  H locs ls h hI hl
    rw [hj26] at h
    refine lv_iconst (v := 0) hx hb dX10_draw_26 (by decide) ?_
    exact J27 _ _ _ _ h hI (lv_sub hl [0, 1, 2] rfl)
  refine lv_if_eq (tgt := 26) hx hb dX10_draw_9 (by decide) (fun c_9 => ?_) (fun c_9 => ?_)
  · have h := (if_pos c_9).symm.trans h
    exact J26 _ _ _ h hI (lv_sub hl [0, 1, 2] rfl)
  · have h := (if_neg c_9).symm.trans h
    refine lv_iload_n hx hb dX10_draw_12 rfl (lv_at hl 2 rfl) ?_
    refine lv_iconst (v := 1) hx hb dX10_draw_13 (by decide) ?_
    refine lv_bipush (v := 10) hx hb dX10_draw_14 (by decide) ?_
    refine g_callSi (E' := mE a cI cZ σ) (As := [.int x2, .int 1, .int 10]) (rest := [.ref (a 0)]) F hI (c_X10_in l D a cI cZ F.2.2 σ x2 1 10) kb_X10_in kt_X10_in km_X10_81 ⟨Nat.le_of_ble_eq_true rfl, Nat.le_of_ble_eq_true rfl, rfl, rfl⟩ hl.1 rfl (Nat.le_of_ble_eq_true rfl) ⟨Nat.zero_le _, Nat.zero_le _⟩ dX10_draw_16 (fun H locs hI => ?_)
    refine lv_if_eq (tgt := 26) hx hb dX10_draw_19 (by decide) (fun c_19 => ?_) (fun c_19 => ?_)
    · have h := (if_pos c_19).symm.trans h
      exact J26 _ _ _ h hI (lv_sub hl [0, 1, 2] rfl)
    · have h := (if_neg c_19).symm.trans h
      refine lv_iconst (v := 1) hx hb dX10_draw_22 (by decide) ?_
      refine lv_goto (tgt := 27) hx hb dX10_draw_23 (by decide) ?_
      exact J27 _ _ _ _ h hI (lv_sub hl [0, 1, 2] rfl)
/-- SpurlineModel.goesThrough(I)Z -/
def f_X10_goesThrough (N : Nat) (σ : gSt) (x1 : Int32) : Option (Int32 × gSt) :=
  if x1 < 0 ∨ 24 ≤ x1.toNatClampNeg then none else
  gLoop2 (fun self14 (v3_14 : Int32) (s_14 : gSt) =>
    if 6 ≤ v3_14 then
      if x1 < 0 ∨ 24 ≤ x1.toNatClampNeg then none else
      if (0 : Int32) < 0 ∨ 6 ≤ (0 : Int32).toNatClampNeg then none else
      gLoop4 (fun self56 (v3_56 : Int32) (v4_56 : Int32) (v5_56 : Int32) (s_56 : gSt) =>
        if v5_56 = 0 then
          if g_ga σ 6 x1 < 0 ∨ 5 ≤ (g_ga σ 6 x1).toNatClampNeg then none else
          if v3_56 < g_ga s_56 5 (g_ga σ 6 x1) then
            some (0, s_56)
          else
            some (1, s_56)
        else
          gLoop1 (fun self61 (v3_61 : Int32) =>
            if g_ga σ 6 x1 < 0 ∨ 5 ≤ (g_ga σ 6 x1).toNatClampNeg then none else
            gJoin0 (
                if g_ga σ 6 x1 < 0 ∨ 5 ≤ (g_ga σ 6 x1).toNatClampNeg then none else
                gJoin1 (fun (w0_127 : Int32) =>
                    gJoin2 (fun (v3_181 : Int32) (s_181 : gSt) =>
                        self56 v3_181 (v4_56 + 1) w0_127 s_181) (fun j181 =>
                      if w0_127 = 0 then
                        j181 v3_61 s_56
                      else
                        if v4_56 < 0 ∨ 480 ≤ v4_56.toNatClampNeg then none else
                        if (6 * (g_ga σ 6 x1)) + v3_61 < 0 ∨ 30 ≤ ((6 * (g_ga σ 6 x1)) + v3_61).toNatClampNeg then none else
                        if g_ga s_56 9 v4_56 = g_ga s_56 4 ((6 * (g_ga σ 6 x1)) + v3_61) then
                          if v4_56 < 0 ∨ 480 ≤ v4_56.toNatClampNeg then none else
                          if v3_61 < 0 ∨ 6 ≤ v3_61.toNatClampNeg then none else
                          j181 (v3_61 + 1) (g_sf (g_pa s_56 16 v3_61 (g_ga s_56 10 v4_56)) 5 (((g_pa s_56 16 v3_61 (g_ga s_56 10 v4_56)).2 5) + 1))
                        else
                          j181 v3_61 s_56)) (fun j127 =>
                gJoin0 (
                    j127 0) (fun j126 =>
                  if g_ga s_56 5 (g_ga σ 6 x1) ≤ v3_61 then
                    j126
                  else
                    if x1 < 0 ∨ 24 ≤ x1.toNatClampNeg then none else
                    if (20 * x1) + (g_ga s_56 11 x1) ≤ v4_56 then
                      j126
                    else
                      j127 1))) (fun j96 =>
              if g_ga s_56 5 (g_ga σ 6 x1) ≤ v3_61 then
                j96
              else
                if (6 * (g_ga σ 6 x1)) + v3_61 < 0 ∨ 30 ≤ ((6 * (g_ga σ 6 x1)) + v3_61).toNatClampNeg then none else
                if g_ga s_56 4 ((6 * (g_ga σ 6 x1)) + v3_61) < 0 ∨ 12 ≤ (g_ga s_56 4 ((6 * (g_ga σ 6 x1)) + v3_61)).toNatClampNeg then none else
                if g_ga s_56 3 (g_ga s_56 4 ((6 * (g_ga σ 6 x1)) + v3_61)) = 0 then
                  j96
                else
                  self61 (v3_61 + 1))) N v3_56) N 1 (20 * x1) 1 (g_pa s_14 16 0 (g_ga s_14 8 x1))
    else
      if v3_14 < 0 ∨ 6 ≤ v3_14.toNatClampNeg then none else
      self14 (v3_14 + 1) (g_pa s_14 16 v3_14 (-1))) N 0 (g_sf σ 5 0)
abbrev rmX10_goesThrough : Room := { frames := 0, cells := 0, slots := 0, locals := 0 }
theorem kb_X10_goesThrough : g_CB yX10_goesThrough cX10_goesThrough 6 (some .boolean) 1 := ⟨kc_X10_goesThrough, kn_X10, by decide +kernel⟩
set_option maxRecDepth 100000 in
set_option maxHeartbeats 4000000 in
theorem c_X10_goesThrough (l : Launch) (D : va_G) (a : Nat → Nat) (cI cZ : ClassId) (hj : g_Inj 21 a) (N : Nat) (σ : gSt) (x1 : Int32) (out : Int32 × gSt) (hh : f_X10_goesThrough N σ x1 = some out) : Met l yX10_goesThrough (Cond.code yX10_goesThrough cX10_goesThrough 6 (some .boolean) :: gW) rmX10_goesThrough (g_Pc 21 D a (mE a cI cZ σ) [(cI, .int), (cZ, .boolean)] [.ref (a 0), .int x1]) (g_Qi 21 D a (mE a cI cZ out.2) out.1) 0 0 (g_Own 21 a) := by
  refine g_metz (by decide) hj (Nat.le_of_ble_eq_true rfl) ?_
  intro p e s m args below meth c Q ls F hl hI hq
  have hx := F.1.1
  have hb := F.1.2.1
  have hl : lv_has ls 6 [(0, .ref (a 0)), (1, .int x1)] := hl
  have h := hh
  unfold f_X10_goesThrough at h
  refine lv_aload_n hx hb dX10_goesThrough_0 rfl (lv_at hl 0 rfl) ?_
  refine g_get F hI (by decide) mE_0 rfl ku_X10 9 (by decide) kf_X10_29 rfl dX10_goesThrough_1 ?_
  refine lv_iload_n hx hb dX10_goesThrough_4 rfl (lv_at hl 1 rfl) ?_
  obtain ⟨g_5, h⟩ := g_guard h
  refine g_iald F hI (by decide) mE_a6 0 rfl g_5 dX10_goesThrough_5 ?_
  refine lv_istore_n (lv' := [(2, .int (g_ga σ 6 x1)), (0, .ref (a 0)), (1, .int x1)]) hx hb dX10_goesThrough_6 rfl hl (by decide) rfl (fun ls hl => ?_)
  refine lv_aload_n hx hb dX10_goesThrough_7 rfl (lv_at hl 1 rfl) ?_
  refine lv_iconst (v := 0) hx hb dX10_goesThrough_8 (by decide) ?_
  refine g_put (E' := mE a cI cZ (g_sf σ 5 0)) F hI (by decide) mE_0 rfl ku_X10 tyX10_ok nmX10 22 (by decide) kf_X10_174 rfl rfl rfl rfl (Nat.le_of_ble_eq_true rfl) rfl mE_sf dX10_goesThrough_9 (fun H locs hI => ?_)
  refine lv_iconst (v := 0) hx hb dX10_goesThrough_12 (by decide) ?_
  refine lv_istore_n (lv' := [(3, .int 0), (2, .int (g_ga σ 6 x1)), (0, .ref (a 0)), (1, .int x1)]) hx hb dX10_goesThrough_13 rfl hl (by decide) rfl (fun ls hl => ?_)
  obtain ⟨lp14, hz14, hs14, h⟩ := gLoop2_in h
  have L14 : ∀ (n : Nat) (v3_14 : Int32) (s_14 : gSt) (H : Heap) (locs : List Loc) (ls : Array Slot), lp14 n v3_14 s_14 = some out → g_S 21 D a (mE a cI cZ s_14) s.heap H locs → lv_has ls 6 [(0, .ref (a 0)), (1, .int x1), (2, .int (g_ga σ 6 x1)), (3, .int v3_14)] → W p l e rmX10_goesThrough s m args below meth c H locs 0 0 Q (F0 m 14 ls []) := by
    intro n
    induction n with
    | zero => intro v3_14 s_14 H locs ls h; rw [hz14] at h; cases h
    | succ n ih14 =>
      intro v3_14 s_14 H locs ls h hI hl
      rw [hs14] at h
      refine lv_iload_n hx hb dX10_goesThrough_14 rfl (lv_at hl 3 rfl) ?_
      refine lv_bipush (v := 6) hx hb dX10_goesThrough_15 (by decide) ?_
      refine lv_icmp_ge (tgt := 33) hx hb dX10_goesThrough_17 (by decide) (fun c_17 => ?_) (fun c_17 => ?_)
      · have h := (if_pos c_17).symm.trans h
        refine lv_aload_n hx hb dX10_goesThrough_33 rfl (lv_at hl 0 rfl) ?_
        refine g_get F hI (by decide) mE_0 rfl ku_X10 21 (by decide) kf_X10_59 rfl dX10_goesThrough_34 ?_
        refine lv_iconst (v := 0) hx hb dX10_goesThrough_37 (by decide) ?_
        refine lv_aload_n hx hb dX10_goesThrough_38 rfl (lv_at hl 0 rfl) ?_
        refine g_get F hI (by decide) mE_0 rfl ku_X10 11 (by decide) kf_X10_35 rfl dX10_goesThrough_39 ?_
        refine lv_iload_n hx hb dX10_goesThrough_42 rfl (lv_at hl 1 rfl) ?_
        obtain ⟨g_43, h⟩ := g_guard h
        refine g_iald F hI (by decide) mE_a8 0 rfl g_43 dX10_goesThrough_43 ?_
        obtain ⟨g_44, h⟩ := g_guard h
        refine g_iast (E' := mE a cI cZ (g_pa s_14 16 0 (g_ga s_14 8 x1))) F hI (by decide) mE_a16 0 rfl g_44 rfl mE_sa dX10_goesThrough_44 (fun H locs hI => ?_)
        refine lv_iconst (v := 1) hx hb dX10_goesThrough_45 (by decide) ?_
        refine lv_istore_n (lv' := [(3, .int 1), (0, .ref (a 0)), (1, .int x1), (2, .int (g_ga σ 6 x1))]) hx hb dX10_goesThrough_46 rfl hl (by decide) rfl (fun ls hl => ?_)
        refine lv_bipush (v := 20) hx hb dX10_goesThrough_47 (by decide) ?_
        refine lv_iload_n hx hb dX10_goesThrough_49 rfl (lv_at hl 2 rfl) ?_
        refine lv_imul hx hb dX10_goesThrough_50 ?_
        refine lv_istore (lv' := [(4, .int (20 * x1)), (3, .int 1), (0, .ref (a 0)), (1, .int x1), (2, .int (g_ga σ 6 x1))]) hx hb dX10_goesThrough_51 hl (by decide) rfl (fun ls hl => ?_)
        refine lv_iconst (v := 1) hx hb dX10_goesThrough_53 (by decide) ?_
        refine lv_istore (lv' := [(5, .int 1), (4, .int (20 * x1)), (3, .int 1), (0, .ref (a 0)), (1, .int x1), (2, .int (g_ga σ 6 x1))]) hx hb dX10_goesThrough_54 hl (by decide) rfl (fun ls hl => ?_)
        obtain ⟨lp56, hz56, hs56, h⟩ := gLoop4_in h
        have L56 : ∀ (n : Nat) (v3_56 : Int32) (v4_56 : Int32) (v5_56 : Int32) (s_56 : gSt) (H : Heap) (locs : List Loc) (ls : Array Slot), lp56 n v3_56 v4_56 v5_56 s_56 = some out → g_S 21 D a (mE a cI cZ s_56) s.heap H locs → lv_has ls 6 [(0, .ref (a 0)), (1, .int x1), (2, .int (g_ga σ 6 x1)), (3, .int v3_56), (4, .int v4_56), (5, .int v5_56)] → W p l e rmX10_goesThrough s m args below meth c H locs 0 0 Q (F0 m 56 ls []) := by
          intro n
          induction n with
          | zero => intro v3_56 v4_56 v5_56 s_56 H locs ls h; rw [hz56] at h; cases h
          | succ n ih56 =>
            intro v3_56 v4_56 v5_56 s_56 H locs ls h hI hl
            rw [hs56] at h
            refine lv_iload hx hb dX10_goesThrough_56 (lv_at hl 5 rfl) ?_
            refine lv_if_eq (tgt := 187) hx hb dX10_goesThrough_58 (by decide) (fun c_58 => ?_) (fun c_58 => ?_)
            · have h := (if_pos c_58).symm.trans h
              refine lv_iload_n hx hb dX10_goesThrough_187 rfl (lv_at hl 3 rfl) ?_
              refine lv_aload_n hx hb dX10_goesThrough_188 rfl (lv_at hl 0 rfl) ?_
              refine g_get F hI (by decide) mE_0 rfl ku_X10 8 (by decide) kf_X10_26 rfl dX10_goesThrough_189 ?_
              refine lv_iload_n hx hb dX10_goesThrough_192 rfl (lv_at hl 2 rfl) ?_
              obtain ⟨g_193, h⟩ := g_guard h
              refine g_iald F hI (by decide) mE_a5 0 rfl g_193 dX10_goesThrough_193 ?_
              refine lv_icmp_lt (tgt := 201) hx hb dX10_goesThrough_194 (by decide) (fun c_194 => ?_) (fun c_194 => ?_)
              · have h := (if_pos c_194).symm.trans h
                refine lv_iconst (v := 0) hx hb dX10_goesThrough_201 (by decide) ?_
                have h := Option.some.inj h
                subst h
                exact hq _ _ _ _ _ (show (0 : Int32) &&& 1 = 0 from by decide) hI dX10_goesThrough_202
              · have h := (if_neg c_194).symm.trans h
                refine lv_iconst (v := 1) hx hb dX10_goesThrough_197 (by decide) ?_
                refine lv_goto (tgt := 202) hx hb dX10_goesThrough_198 (by decide) ?_
                have h := Option.some.inj h
                subst h
                exact hq _ _ _ _ _ (show (1 : Int32) &&& 1 = 1 from by decide) hI dX10_goesThrough_202
            · have h := (if_neg c_58).symm.trans h
              obtain ⟨lp61, hz61, hs61, h⟩ := gLoop1_in h
              have L61 : ∀ (n : Nat) (v3_61 : Int32) (H : Heap) (locs : List Loc) (ls : Array Slot), lp61 n v3_61 = some out → g_S 21 D a (mE a cI cZ s_56) s.heap H locs → lv_has ls 6 [(0, .ref (a 0)), (1, .int x1), (2, .int (g_ga σ 6 x1)), (3, .int v3_61), (4, .int v4_56)] → W p l e rmX10_goesThrough s m args below meth c H locs 0 0 Q (F0 m 61 ls []) := by
                intro n
                induction n with
                | zero => intro v3_61 H locs ls h; rw [hz61] at h; cases h
                | succ n ih61 =>
                  intro v3_61 H locs ls h hI hl
                  rw [hs61] at h
                  refine lv_iload_n hx hb dX10_goesThrough_61 rfl (lv_at hl 3 rfl) ?_
                  refine lv_aload_n hx hb dX10_goesThrough_62 rfl (lv_at hl 0 rfl) ?_
                  refine g_get F hI (by decide) mE_0 rfl ku_X10 8 (by decide) kf_X10_26 rfl dX10_goesThrough_63 ?_
                  refine lv_iload_n hx hb dX10_goesThrough_66 rfl (lv_at hl 2 rfl) ?_
                  obtain ⟨g_67, h⟩ := g_guard h
                  refine g_iald F hI (by decide) mE_a5 0 rfl g_67 dX10_goesThrough_67 ?_
                  obtain ⟨j96, hj96, h⟩ := gJoin0_in h
                  have J96 : ∀ (H : Heap) (locs : List Loc) (ls : Array Slot), j96  = some out → g_S 21 D a (mE a cI cZ s_56) s.heap H locs → lv_has ls 6 [(0, .ref (a 0)), (1, .int x1), (2, .int (g_ga σ 6 x1)), (3, .int v3_61), (4, .int v4_56)] → W p l e rmX10_goesThrough s m args below meth c H locs 0 0 Q (F0 m 96 ls []) := by
                    intro  H locs ls h hI hl
                    rw [hj96] at h
                    refine lv_iload_n hx hb dX10_goesThrough_96 rfl (lv_at hl 3 rfl) ?_
                    refine lv_aload_n hx hb dX10_goesThrough_97 rfl (lv_at hl 0 rfl) ?_
                    refine g_get F hI (by decide) mE_0 rfl ku_X10 8 (by decide) kf_X10_26 rfl dX10_goesThrough_98 ?_
                    refine lv_iload_n hx hb dX10_goesThrough_101 rfl (lv_at hl 2 rfl) ?_
                    obtain ⟨g_102, h⟩ := g_guard h
                    refine g_iald F hI (by decide) mE_a5 0 rfl g_102 dX10_goesThrough_102 ?_
                    obtain ⟨j127, hj127, h⟩ := gJoin1_in h
                    have J127 : ∀ (w0_127 : Int32) (H : Heap) (locs : List Loc) (ls : Array Slot), j127 w0_127 = some out → g_S 21 D a (mE a cI cZ s_56) s.heap H locs → lv_has ls 6 [(0, .ref (a 0)), (1, .int x1), (2, .int (g_ga σ 6 x1)), (3, .int v3_61), (4, .int v4_56)] → W p l e rmX10_goesThrough s m args below meth c H locs 0 0 Q (F0 m 127 ls [.int w0_127]) := by
                      intro w0_127 H locs ls h hI hl
                      rw [hj127] at h
                      refine lv_istore (lv' := [(5, .int w0_127), (0, .ref (a 0)), (1, .int x1), (2, .int (g_ga σ 6 x1)), (3, .int v3_61), (4, .int v4_56)]) hx hb dX10_goesThrough_127 hl (by decide) rfl (fun ls hl => ?_)
                      refine lv_iload hx hb dX10_goesThrough_129 (lv_at hl 0 rfl) ?_
                      obtain ⟨j181, hj181, h⟩ := gJoin2_in h
                      have J181 : ∀ (v3_181 : Int32) (s_181 : gSt) (H : Heap) (locs : List Loc) (ls : Array Slot), j181 v3_181 s_181 = some out → g_S 21 D a (mE a cI cZ s_181) s.heap H locs → lv_has ls 6 [(0, .ref (a 0)), (1, .int x1), (2, .int (g_ga σ 6 x1)), (3, .int v3_181), (4, .int v4_56), (5, .int w0_127)] → W p l e rmX10_goesThrough s m args below meth c H locs 0 0 Q (F0 m 181 ls []) := by
                        intro v3_181 s_181 H locs ls h hI hl
                        rw [hj181] at h
                        refine lv_iinc (v := v4_56 + 1) (lv' := [(4, .int (v4_56 + 1)), (0, .ref (a 0)), (1, .int x1), (2, .int (g_ga σ 6 x1)), (3, .int v3_181), (5, .int w0_127)]) hx hb dX10_goesThrough_181 hl (k := 4) rfl rfl (by decide) rfl (fun ls hl => ?_)
                        refine lv_goto (tgt := 56) hx hb dX10_goesThrough_184 (by decide) ?_
                        exact ih56 _ _ _ _ _ _ _ h hI (lv_sub hl [1, 2, 3, 4, 0, 5] rfl)
                      refine lv_if_eq (tgt := 181) hx hb dX10_goesThrough_131 (by decide) (fun c_131 => ?_) (fun c_131 => ?_)
                      · have h := (if_pos c_131).symm.trans h
                        exact J181 _ _ _ _ _ h hI (lv_sub hl [1, 2, 3, 4, 5, 0] rfl)
                      · have h := (if_neg c_131).symm.trans h
                        refine lv_aload_n hx hb dX10_goesThrough_134 rfl (lv_at hl 1 rfl) ?_
                        refine g_get F hI (by decide) mE_0 rfl ku_X10 12 (by decide) kf_X10_38 rfl dX10_goesThrough_135 ?_
                        refine lv_iload hx hb dX10_goesThrough_138 (lv_at hl 5 rfl) ?_
                        obtain ⟨g_140, h⟩ := g_guard h
                        refine g_iald F hI (by decide) mE_a9 0 rfl g_140 dX10_goesThrough_140 ?_
                        refine lv_aload_n hx hb dX10_goesThrough_141 rfl (lv_at hl 1 rfl) ?_
                        refine g_get F hI (by decide) mE_0 rfl ku_X10 7 (by decide) kf_X10_23 rfl dX10_goesThrough_142 ?_
                        refine lv_bipush (v := 6) hx hb dX10_goesThrough_145 (by decide) ?_
                        refine lv_iload_n hx hb dX10_goesThrough_147 rfl (lv_at hl 3 rfl) ?_
                        refine lv_imul hx hb dX10_goesThrough_148 ?_
                        refine lv_iload_n hx hb dX10_goesThrough_149 rfl (lv_at hl 4 rfl) ?_
                        refine lv_iadd hx hb dX10_goesThrough_150 ?_
                        obtain ⟨g_151, h⟩ := g_guard h
                        refine g_iald F hI (by decide) mE_a4 0 rfl g_151 dX10_goesThrough_151 ?_
                        refine lv_icmp_ne (tgt := 181) hx hb dX10_goesThrough_152 (by decide) (fun c_152 => ?_) (fun c_152 => ?_)
                        · have h := (if_neg c_152).symm.trans h
                          exact J181 _ _ _ _ _ h hI (lv_sub hl [1, 2, 3, 4, 5, 0] rfl)
                        · have h := (if_pos c_152).symm.trans h
                          refine lv_aload_n hx hb dX10_goesThrough_155 rfl (lv_at hl 1 rfl) ?_
                          refine g_get F hI (by decide) mE_0 rfl ku_X10 21 (by decide) kf_X10_59 rfl dX10_goesThrough_156 ?_
                          refine lv_iload_n hx hb dX10_goesThrough_159 rfl (lv_at hl 4 rfl) ?_
                          refine lv_aload_n hx hb dX10_goesThrough_160 rfl (lv_at hl 1 rfl) ?_
                          refine g_get F hI (by decide) mE_0 rfl ku_X10 13 (by decide) kf_X10_41 rfl dX10_goesThrough_161 ?_
                          refine lv_iload hx hb dX10_goesThrough_164 (lv_at hl 5 rfl) ?_
                          obtain ⟨g_166, h⟩ := g_guard h
                          refine g_iald F hI (by decide) mE_a10 0 rfl g_166 dX10_goesThrough_166 ?_
                          obtain ⟨g_167, h⟩ := g_guard h
                          refine g_iast (E' := mE a cI cZ (g_pa s_56 16 v3_61 (g_ga s_56 10 v4_56))) F hI (by decide) mE_a16 0 rfl g_167 rfl mE_sa dX10_goesThrough_167 (fun H locs hI => ?_)
                          refine lv_aload_n hx hb dX10_goesThrough_168 rfl (lv_at hl 1 rfl) ?_
                          refine lv_dup hx hb dX10_goesThrough_169 rfl ?_
                          refine g_get F hI (by decide) mE_0 rfl ku_X10 22 (by decide) kf_X10_174 rfl dX10_goesThrough_170 ?_
                          refine lv_iconst (v := 1) hx hb dX10_goesThrough_173 (by decide) ?_
                          refine lv_iadd hx hb dX10_goesThrough_174 ?_
                          refine g_put (E' := mE a cI cZ (g_sf (g_pa s_56 16 v3_61 (g_ga s_56 10 v4_56)) 5 (((g_pa s_56 16 v3_61 (g_ga s_56 10 v4_56)).2 5) + 1))) F hI (by decide) mE_0 rfl ku_X10 tyX10_ok nmX10 22 (by decide) kf_X10_174 rfl rfl rfl rfl (Nat.le_of_ble_eq_true rfl) rfl mE_sf dX10_goesThrough_175 (fun H locs hI => ?_)
                          refine lv_iinc (v := v3_61 + 1) (lv' := [(3, .int (v3_61 + 1)), (5, .int w0_127), (0, .ref (a 0)), (1, .int x1), (2, .int (g_ga σ 6 x1)), (4, .int v4_56)]) hx hb dX10_goesThrough_178 hl (k := 4) rfl rfl (by decide) rfl (fun ls hl => ?_)
                          exact J181 _ _ _ _ _ h hI (lv_sub hl [2, 3, 4, 0, 5, 1] rfl)
                    obtain ⟨j126, hj126, h⟩ := gJoin0_in h
                    have J126 : ∀ (H : Heap) (locs : List Loc) (ls : Array Slot), j126  = some out → g_S 21 D a (mE a cI cZ s_56) s.heap H locs → lv_has ls 6 [(0, .ref (a 0)), (1, .int x1), (2, .int (g_ga σ 6 x1)), (3, .int v3_61), (4, .int v4_56)] → W p l e rmX10_goesThrough s m args below meth c H locs 0 0 Q (F0 m 126 ls []) := by
                      intro  H locs ls h hI hl
                      rw [hj126] at h
                      refine lv_iconst (v := 0) hx hb dX10_goesThrough_126 (by decide) ?_
                      exact J127 _ _ _ _ h hI (lv_sub hl [0, 1, 2, 3, 4] rfl)
                    refine lv_icmp_ge (tgt := 126) hx hb dX10_goesThrough_103 (by decide) (fun c_103 => ?_) (fun c_103 => ?_)
                    · have h := (if_pos c_103).symm.trans h
                      exact J126 _ _ _ h hI (lv_sub hl [0, 1, 2, 3, 4] rfl)
                    · have h := (if_neg c_103).symm.trans h
                      refine lv_iload hx hb dX10_goesThrough_106 (lv_at hl 4 rfl) ?_
                      refine lv_bipush (v := 20) hx hb dX10_goesThrough_108 (by decide) ?_
                      refine lv_iload_n hx hb dX10_goesThrough_110 rfl (lv_at hl 1 rfl) ?_
                      refine lv_imul hx hb dX10_goesThrough_111 ?_
                      refine lv_aload_n hx hb dX10_goesThrough_112 rfl (lv_at hl 0 rfl) ?_
                      refine g_get F hI (by decide) mE_0 rfl ku_X10 14 (by decide) kf_X10_44 rfl dX10_goesThrough_113 ?_
                      refine lv_iload_n hx hb dX10_goesThrough_116 rfl (lv_at hl 1 rfl) ?_
                      obtain ⟨g_117, h⟩ := g_guard h
                      refine g_iald F hI (by decide) mE_a11 0 rfl g_117 dX10_goesThrough_117 ?_
                      refine lv_iadd hx hb dX10_goesThrough_118 ?_
                      refine lv_icmp_ge (tgt := 126) hx hb dX10_goesThrough_119 (by decide) (fun c_119 => ?_) (fun c_119 => ?_)
                      · have h := (if_pos c_119).symm.trans h
                        exact J126 _ _ _ h hI (lv_sub hl [0, 1, 2, 3, 4] rfl)
                      · have h := (if_neg c_119).symm.trans h
                        refine lv_iconst (v := 1) hx hb dX10_goesThrough_122 (by decide) ?_
                        refine lv_goto (tgt := 127) hx hb dX10_goesThrough_123 (by decide) ?_
                        exact J127 _ _ _ _ h hI (lv_sub hl [0, 1, 2, 3, 4] rfl)
                  refine lv_icmp_ge (tgt := 96) hx hb dX10_goesThrough_68 (by decide) (fun c_68 => ?_) (fun c_68 => ?_)
                  · have h := (if_pos c_68).symm.trans h
                    exact J96 _ _ _ h hI (lv_sub hl [0, 1, 2, 3, 4] rfl)
                  · have h := (if_neg c_68).symm.trans h
                    refine lv_aload_n hx hb dX10_goesThrough_71 rfl (lv_at hl 0 rfl) ?_
                    refine g_get F hI (by decide) mE_0 rfl ku_X10 5 (by decide) kf_X10_19 rfl dX10_goesThrough_72 ?_
                    refine lv_aload_n hx hb dX10_goesThrough_75 rfl (lv_at hl 0 rfl) ?_
                    refine g_get F hI (by decide) mE_0 rfl ku_X10 7 (by decide) kf_X10_23 rfl dX10_goesThrough_76 ?_
                    refine lv_bipush (v := 6) hx hb dX10_goesThrough_79 (by decide) ?_
                    refine lv_iload_n hx hb dX10_goesThrough_81 rfl (lv_at hl 2 rfl) ?_
                    refine lv_imul hx hb dX10_goesThrough_82 ?_
                    refine lv_iload_n hx hb dX10_goesThrough_83 rfl (lv_at hl 3 rfl) ?_
                    refine lv_iadd hx hb dX10_goesThrough_84 ?_
                    obtain ⟨g_85, h⟩ := g_guard h
                    refine g_iald F hI (by decide) mE_a4 0 rfl g_85 dX10_goesThrough_85 ?_
                    obtain ⟨g_86, h⟩ := g_guard h
                    refine g_zald F hI (by decide) mE_a3 1 rfl g_86 dX10_goesThrough_86 ?_
                    refine lv_if_eq (tgt := 96) hx hb dX10_goesThrough_87 (by decide) (fun c_87 => ?_) (fun c_87 => ?_)
                    · have h := (if_pos c_87).symm.trans h
                      exact J96 _ _ _ h hI (lv_sub hl [0, 1, 2, 3, 4] rfl)
                    · have h := (if_neg c_87).symm.trans h
                      refine lv_iinc (v := v3_61 + 1) (lv' := [(3, .int (v3_61 + 1)), (0, .ref (a 0)), (1, .int x1), (2, .int (g_ga σ 6 x1)), (4, .int v4_56)]) hx hb dX10_goesThrough_90 hl (k := 3) rfl rfl (by decide) rfl (fun ls hl => ?_)
                      refine lv_goto (tgt := 61) hx hb dX10_goesThrough_93 (by decide) ?_
                      exact ih61 _ _ _ _ h hI (lv_sub hl [1, 2, 3, 0, 4] rfl)
              exact L61 _ _ _ _ _ h hI (lv_sub hl [0, 1, 2, 3, 4] rfl)
        exact L56 _ _ _ _ _ _ _ _ h hI (lv_sub hl [3, 4, 5, 2, 1, 0] rfl)
      · have h := (if_neg c_17).symm.trans h
        refine lv_aload_n hx hb dX10_goesThrough_20 rfl (lv_at hl 0 rfl) ?_
        refine g_get F hI (by decide) mE_0 rfl ku_X10 21 (by decide) kf_X10_59 rfl dX10_goesThrough_21 ?_
        refine lv_iload_n hx hb dX10_goesThrough_24 rfl (lv_at hl 3 rfl) ?_
        refine lv_iconst (v := -1) hx hb dX10_goesThrough_25 (by decide) ?_
        obtain ⟨g_26, h⟩ := g_guard h
        refine g_iast (E' := mE a cI cZ (g_pa s_14 16 v3_14 (-1))) F hI (by decide) mE_a16 0 rfl g_26 rfl mE_sa dX10_goesThrough_26 (fun H locs hI => ?_)
        refine lv_iinc (v := v3_14 + 1) (lv' := [(3, .int (v3_14 + 1)), (0, .ref (a 0)), (1, .int x1), (2, .int (g_ga σ 6 x1))]) hx hb dX10_goesThrough_27 hl (k := 3) rfl rfl (by decide) rfl (fun ls hl => ?_)
        refine lv_goto (tgt := 14) hx hb dX10_goesThrough_30 (by decide) ?_
        exact ih14 _ _ _ _ _ h hI (lv_sub hl [1, 2, 3, 0] rfl)
  exact L14 _ _ _ _ _ _ h hI (lv_sub hl [2, 3, 1, 0] rfl)
/-- SpurlineModel.punch(III)I -/
def f_X10_punch (N : Nat) (σ : gSt) (x1 x2 x3 : Int32) : Option (Int32 × gSt) :=
  gJoin1 (fun (w0_21 : Int32) =>
      gJoin1 (fun (w0_51 : Int32) =>
          gJoin1 (fun (w0_98 : Int32) =>
              if (f_X10_asked__ σ w0_21 w0_51 (f_X10_in x3 w0_98 9999)).1 = 0 then
                some (0, (f_X10_asked__ σ w0_21 w0_51 (f_X10_in x3 w0_98 9999)).2)
              else
                if x1 < 0 ∨ 24 ≤ x1.toNatClampNeg then none else
                if (20 * x1) + (g_ga ((f_X10_asked__ σ w0_21 w0_51 (f_X10_in x3 w0_98 9999)).2) 11 x1) < 0 ∨ 480 ≤ ((20 * x1) + (g_ga ((f_X10_asked__ σ w0_21 w0_51 (f_X10_in x3 w0_98 9999)).2) 11 x1)).toNatClampNeg then none else
                if x1 < 0 ∨ 24 ≤ x1.toNatClampNeg then none else
                if (20 * x1) + (g_ga (g_pa ((f_X10_asked__ σ w0_21 w0_51 (f_X10_in x3 w0_98 9999)).2) 9 ((20 * x1) + (g_ga ((f_X10_asked__ σ w0_21 w0_51 (f_X10_in x3 w0_98 9999)).2) 11 x1)) x2) 11 x1) < 0 ∨ 480 ≤ ((20 * x1) + (g_ga (g_pa ((f_X10_asked__ σ w0_21 w0_51 (f_X10_in x3 w0_98 9999)).2) 9 ((20 * x1) + (g_ga ((f_X10_asked__ σ w0_21 w0_51 (f_X10_in x3 w0_98 9999)).2) 11 x1)) x2) 11 x1)).toNatClampNeg then none else
                if x1 < 0 ∨ 24 ≤ x1.toNatClampNeg then none else
                if x1 < 0 ∨ 24 ≤ x1.toNatClampNeg then none else
                (f_X10_goesThrough N (g_pa (g_pa (g_pa ((f_X10_asked__ σ w0_21 w0_51 (f_X10_in x3 w0_98 9999)).2) 9 ((20 * x1) + (g_ga ((f_X10_asked__ σ w0_21 w0_51 (f_X10_in x3 w0_98 9999)).2) 11 x1)) x2) 10 ((20 * x1) + (g_ga (g_pa ((f_X10_asked__ σ w0_21 w0_51 (f_X10_in x3 w0_98 9999)).2) 9 ((20 * x1) + (g_ga ((f_X10_asked__ σ w0_21 w0_51 (f_X10_in x3 w0_98 9999)).2) 11 x1)) x2) 11 x1)) x3) 11 x1 ((g_ga (g_pa (g_pa ((f_X10_asked__ σ w0_21 w0_51 (f_X10_in x3 w0_98 9999)).2) 9 ((20 * x1) + (g_ga ((f_X10_asked__ σ w0_21 w0_51 (f_X10_in x3 w0_98 9999)).2) 11 x1)) x2) 10 ((20 * x1) + (g_ga (g_pa ((f_X10_asked__ σ w0_21 w0_51 (f_X10_in x3 w0_98 9999)).2) 9 ((20 * x1) + (g_ga ((f_X10_asked__ σ w0_21 w0_51 (f_X10_in x3 w0_98 9999)).2) 11 x1)) x2) 11 x1)) x3) 11 x1) + 1)) x1).bind (fun (q_168 : Int32 × gSt) =>
                some (q_168.2.2 5, q_168.2))) (fun j98 =>
            if w0_51 = 0 then
              j98 0
            else
              if x1 < 0 ∨ 24 ≤ x1.toNatClampNeg then none else
              if g_ga σ 11 x1 ≤ 0 then
                if x1 < 0 ∨ 24 ≤ x1.toNatClampNeg then none else
                j98 (g_ga σ 8 x1)
              else
                if x1 < 0 ∨ 24 ≤ x1.toNatClampNeg then none else
                if ((20 * x1) + (g_ga σ 11 x1)) - 1 < 0 ∨ 480 ≤ (((20 * x1) + (g_ga σ 11 x1)) - 1).toNatClampNeg then none else
                j98 (g_ga σ 10 (((20 * x1) + (g_ga σ 11 x1)) - 1)))) (fun j51 =>
      gJoin0 (
          j51 0) (fun j50 =>
        if w0_21 = 0 then
          j50
        else
          if σ.2 4 = 0 then
            j50
          else
            if x1 < 0 ∨ 24 ≤ x1.toNatClampNeg then none else
            if 20 ≤ g_ga σ 11 x1 then
              j50
            else
              j51 1))) (fun j21 =>
  gJoin0 (
      j21 0) (fun j20 =>
    if f_X10_isRunner σ x1 = 0 then
      j20
    else
      if f_X10_isControl σ x2 = 0 then
        j20
      else
        j21 1))
abbrev rmX10_punch : Room := { frames := 2, cells := 0, slots := 0, locals := 43 }
theorem kb_X10_punch : g_CB yX10_punch cX10_punch 7 (some .int) 3 := ⟨kc_X10_punch, kn_X10, by decide +kernel⟩
set_option maxRecDepth 100000 in
set_option maxHeartbeats 4000000 in
theorem c_X10_punch (l : Launch) (D : va_G) (a : Nat → Nat) (cI cZ : ClassId) (hj : g_Inj 21 a) (N : Nat) (σ : gSt) (x1 x2 x3 : Int32) (out : Int32 × gSt) (hh : f_X10_punch N σ x1 x2 x3 = some out) : Met l yX10_punch (Cond.code yX10_punch cX10_punch 7 (some .int) :: gW) rmX10_punch (g_Pc 21 D a (mE a cI cZ σ) [(cI, .int), (cZ, .boolean)] [.ref (a 0), .int x1, .int x2, .int x3]) (g_Qi 21 D a (mE a cI cZ out.2) out.1) 0 0 (g_Own 21 a) := by
  refine g_meti (by decide) hj (Nat.le_of_ble_eq_true rfl) ?_
  intro p e s m args below meth c Q ls F hl hI hq
  have hx := F.1.1
  have hb := F.1.2.1
  have hl : lv_has ls 7 [(0, .ref (a 0)), (1, .int x1), (2, .int x2), (3, .int x3)] := hl
  have h := hh
  unfold f_X10_punch at h
  refine lv_aload_n hx hb dX10_punch_0 rfl (lv_at hl 0 rfl) ?_
  refine lv_iload_n hx hb dX10_punch_1 rfl (lv_at hl 1 rfl) ?_
  refine g_callVi (E' := mE a cI cZ σ) (k0 := 0) (As := [.int x1]) (rest := []) F hI (c_X10_isRunner l D a cI cZ F.2.2 σ x1) kb_X10_isRunner ki_X10_isRunner ks_X10_isRunner km_X10_177 ⟨Nat.le_of_ble_eq_true rfl, Nat.le_of_ble_eq_true rfl, rfl, rfl⟩ (by decide) mE_0 rfl hl.1 rfl (Nat.le_of_ble_eq_true rfl) ⟨Nat.zero_le _, Nat.zero_le _⟩ dX10_punch_2 (fun H locs hI => ?_)
  obtain ⟨j21, hj21, h⟩ := gJoin1_in h
  have J21 : ∀ (w0_21 : Int32) (H : Heap) (locs : List Loc) (ls : Array Slot), j21 w0_21 = some out → g_S 21 D a (mE a cI cZ σ) s.heap H locs → lv_has ls 7 [(0, .ref (a 0)), (1, .int x1), (2, .int x2), (3, .int x3)] → W p l e rmX10_punch s m args below meth c H locs 0 0 Q (F0 m 21 ls [.int w0_21]) := by
    intro w0_21 H locs ls h hI hl
    rw [hj21] at h
    refine lv_istore (lv' := [(4, .int w0_21), (0, .ref (a 0)), (1, .int x1), (2, .int x2), (3, .int x3)]) hx hb dX10_punch_21 hl (by decide) rfl (fun ls hl => ?_)
    refine lv_iload hx hb dX10_punch_23 (lv_at hl 0 rfl) ?_
    obtain ⟨j51, hj51, h⟩ := gJoin1_in h
    have J51 : ∀ (w0_51 : Int32) (H : Heap) (locs : List Loc) (ls : Array Slot), j51 w0_51 = some out → g_S 21 D a (mE a cI cZ σ) s.heap H locs → lv_has ls 7 [(0, .ref (a 0)), (1, .int x1), (2, .int x2), (3, .int x3), (4, .int w0_21)] → W p l e rmX10_punch s m args below meth c H locs 0 0 Q (F0 m 51 ls [.int w0_51]) := by
      intro w0_51 H locs ls h hI hl
      rw [hj51] at h
      refine lv_istore (lv' := [(5, .int w0_51), (0, .ref (a 0)), (1, .int x1), (2, .int x2), (3, .int x3), (4, .int w0_21)]) hx hb dX10_punch_51 hl (by decide) rfl (fun ls hl => ?_)
      refine lv_iload hx hb dX10_punch_53 (lv_at hl 0 rfl) ?_
      obtain ⟨j98, hj98, h⟩ := gJoin1_in h
      have J98 : ∀ (w0_98 : Int32) (H : Heap) (locs : List Loc) (ls : Array Slot), j98 w0_98 = some out → g_S 21 D a (mE a cI cZ σ) s.heap H locs → lv_has ls 7 [(0, .ref (a 0)), (1, .int x1), (2, .int x2), (3, .int x3), (4, .int w0_21), (5, .int w0_51)] → W p l e rmX10_punch s m args below meth c H locs 0 0 Q (F0 m 98 ls [.int w0_98]) := by
        intro w0_98 H locs ls h hI hl
        rw [hj98] at h
        refine lv_istore (lv' := [(6, .int w0_98), (0, .ref (a 0)), (1, .int x1), (2, .int x2), (3, .int x3), (4, .int w0_21), (5, .int w0_51)]) hx hb dX10_punch_98 hl (by decide) rfl (fun ls hl => ?_)
        refine lv_aload_n hx hb dX10_punch_100 rfl (lv_at hl 1 rfl) ?_
        refine lv_iload hx hb dX10_punch_101 (lv_at hl 5 rfl) ?_
        refine lv_iload hx hb dX10_punch_103 (lv_at hl 6 rfl) ?_
        refine lv_iload_n hx hb dX10_punch_105 rfl (lv_at hl 4 rfl) ?_
        refine lv_iload hx hb dX10_punch_106 (lv_at hl 0 rfl) ?_
        refine lv_sipush (v := 9999) hx hb dX10_punch_108 (by decide) ?_
        refine g_callSi (E' := mE a cI cZ σ) (As := [.int x3, .int w0_98, .int 9999]) (rest := [.int w0_51, .int w0_21, .ref (a 0)]) F hI (c_X10_in l D a cI cZ F.2.2 σ x3 w0_98 9999) kb_X10_in kt_X10_in km_X10_81 ⟨Nat.le_of_ble_eq_true rfl, Nat.le_of_ble_eq_true rfl, rfl, rfl⟩ hl.1 rfl (Nat.le_of_ble_eq_true rfl) ⟨Nat.zero_le _, Nat.zero_le _⟩ dX10_punch_111 (fun H locs hI => ?_)
        refine g_callVi (E' := mE a cI cZ ((f_X10_asked__ σ w0_21 w0_51 (f_X10_in x3 w0_98 9999)).2)) (k0 := 0) (As := [.int w0_21, .int w0_51, .int (f_X10_in x3 w0_98 9999)]) (rest := []) F hI (c_X10_asked__ l D a cI cZ F.2.2 σ w0_21 w0_51 (f_X10_in x3 w0_98 9999)) kb_X10_asked__ ki_X10_asked__ ks_X10_asked__ km_X10_159 ⟨Nat.le_of_ble_eq_true rfl, Nat.le_of_ble_eq_true rfl, rfl, rfl⟩ (by decide) mE_0 rfl hl.1 rfl (Nat.le_of_ble_eq_true rfl) ⟨Nat.zero_le _, Nat.zero_le _⟩ dX10_punch_114 (fun H locs hI => ?_)
        refine lv_if_ne (tgt := 122) hx hb dX10_punch_117 (by decide) (fun c_117 => ?_) (fun c_117 => ?_)
        · have h := (if_neg c_117).symm.trans h
          refine lv_aload_n hx hb dX10_punch_122 rfl (lv_at hl 1 rfl) ?_
          refine g_get F hI (by decide) mE_0 rfl ku_X10 12 (by decide) kf_X10_38 rfl dX10_punch_123 ?_
          refine lv_bipush (v := 20) hx hb dX10_punch_126 (by decide) ?_
          refine lv_iload_n hx hb dX10_punch_128 rfl (lv_at hl 2 rfl) ?_
          refine lv_imul hx hb dX10_punch_129 ?_
          refine lv_aload_n hx hb dX10_punch_130 rfl (lv_at hl 1 rfl) ?_
          refine g_get F hI (by decide) mE_0 rfl ku_X10 14 (by decide) kf_X10_44 rfl dX10_punch_131 ?_
          refine lv_iload_n hx hb dX10_punch_134 rfl (lv_at hl 2 rfl) ?_
          obtain ⟨g_135, h⟩ := g_guard h
          refine g_iald F hI (by decide) mE_a11 0 rfl g_135 dX10_punch_135 ?_
          refine lv_iadd hx hb dX10_punch_136 ?_
          refine lv_iload_n hx hb dX10_punch_137 rfl (lv_at hl 3 rfl) ?_
          obtain ⟨g_138, h⟩ := g_guard h
          refine g_iast (E' := mE a cI cZ (g_pa ((f_X10_asked__ σ w0_21 w0_51 (f_X10_in x3 w0_98 9999)).2) 9 ((20 * x1) + (g_ga ((f_X10_asked__ σ w0_21 w0_51 (f_X10_in x3 w0_98 9999)).2) 11 x1)) x2)) F hI (by decide) mE_a9 0 rfl g_138 rfl mE_sa dX10_punch_138 (fun H locs hI => ?_)
          refine lv_aload_n hx hb dX10_punch_139 rfl (lv_at hl 1 rfl) ?_
          refine g_get F hI (by decide) mE_0 rfl ku_X10 13 (by decide) kf_X10_41 rfl dX10_punch_140 ?_
          refine lv_bipush (v := 20) hx hb dX10_punch_143 (by decide) ?_
          refine lv_iload_n hx hb dX10_punch_145 rfl (lv_at hl 2 rfl) ?_
          refine lv_imul hx hb dX10_punch_146 ?_
          refine lv_aload_n hx hb dX10_punch_147 rfl (lv_at hl 1 rfl) ?_
          refine g_get F hI (by decide) mE_0 rfl ku_X10 14 (by decide) kf_X10_44 rfl dX10_punch_148 ?_
          refine lv_iload_n hx hb dX10_punch_151 rfl (lv_at hl 2 rfl) ?_
          obtain ⟨g_152, h⟩ := g_guard h
          refine g_iald F hI (by decide) mE_a11 0 rfl g_152 dX10_punch_152 ?_
          refine lv_iadd hx hb dX10_punch_153 ?_
          refine lv_iload_n hx hb dX10_punch_154 rfl (lv_at hl 4 rfl) ?_
          obtain ⟨g_155, h⟩ := g_guard h
          refine g_iast (E' := mE a cI cZ (g_pa (g_pa ((f_X10_asked__ σ w0_21 w0_51 (f_X10_in x3 w0_98 9999)).2) 9 ((20 * x1) + (g_ga ((f_X10_asked__ σ w0_21 w0_51 (f_X10_in x3 w0_98 9999)).2) 11 x1)) x2) 10 ((20 * x1) + (g_ga (g_pa ((f_X10_asked__ σ w0_21 w0_51 (f_X10_in x3 w0_98 9999)).2) 9 ((20 * x1) + (g_ga ((f_X10_asked__ σ w0_21 w0_51 (f_X10_in x3 w0_98 9999)).2) 11 x1)) x2) 11 x1)) x3)) F hI (by decide) mE_a10 0 rfl g_155 rfl mE_sa dX10_punch_155 (fun H locs hI => ?_)
          refine lv_aload_n hx hb dX10_punch_156 rfl (lv_at hl 1 rfl) ?_
          refine g_get F hI (by decide) mE_0 rfl ku_X10 14 (by decide) kf_X10_44 rfl dX10_punch_157 ?_
          refine lv_iload_n hx hb dX10_punch_160 rfl (lv_at hl 2 rfl) ?_
          refine lv_dup2_11 hx hb dX10_punch_161 rfl rfl ?_
          obtain ⟨g_162, h⟩ := g_guard h
          refine g_iald F hI (by decide) mE_a11 0 rfl g_162 dX10_punch_162 ?_
          refine lv_iconst (v := 1) hx hb dX10_punch_163 (by decide) ?_
          refine lv_iadd hx hb dX10_punch_164 ?_
          obtain ⟨g_165, h⟩ := g_guard h
          refine g_iast (E' := mE a cI cZ (g_pa (g_pa (g_pa ((f_X10_asked__ σ w0_21 w0_51 (f_X10_in x3 w0_98 9999)).2) 9 ((20 * x1) + (g_ga ((f_X10_asked__ σ w0_21 w0_51 (f_X10_in x3 w0_98 9999)).2) 11 x1)) x2) 10 ((20 * x1) + (g_ga (g_pa ((f_X10_asked__ σ w0_21 w0_51 (f_X10_in x3 w0_98 9999)).2) 9 ((20 * x1) + (g_ga ((f_X10_asked__ σ w0_21 w0_51 (f_X10_in x3 w0_98 9999)).2) 11 x1)) x2) 11 x1)) x3) 11 x1 ((g_ga (g_pa (g_pa ((f_X10_asked__ σ w0_21 w0_51 (f_X10_in x3 w0_98 9999)).2) 9 ((20 * x1) + (g_ga ((f_X10_asked__ σ w0_21 w0_51 (f_X10_in x3 w0_98 9999)).2) 11 x1)) x2) 10 ((20 * x1) + (g_ga (g_pa ((f_X10_asked__ σ w0_21 w0_51 (f_X10_in x3 w0_98 9999)).2) 9 ((20 * x1) + (g_ga ((f_X10_asked__ σ w0_21 w0_51 (f_X10_in x3 w0_98 9999)).2) 11 x1)) x2) 11 x1)) x3) 11 x1) + 1))) F hI (by decide) mE_a11 0 rfl g_165 rfl mE_sa dX10_punch_165 (fun H locs hI => ?_)
          refine lv_aload_n hx hb dX10_punch_166 rfl (lv_at hl 1 rfl) ?_
          refine lv_iload_n hx hb dX10_punch_167 rfl (lv_at hl 2 rfl) ?_
          obtain ⟨q_168, e_168, h⟩ := gBind_in h
          refine g_callVi (E' := mE a cI cZ q_168.2) (k0 := 0) (As := [.int x1]) (rest := []) F hI (c_X10_goesThrough l D a cI cZ F.2.2 N (g_pa (g_pa (g_pa ((f_X10_asked__ σ w0_21 w0_51 (f_X10_in x3 w0_98 9999)).2) 9 ((20 * x1) + (g_ga ((f_X10_asked__ σ w0_21 w0_51 (f_X10_in x3 w0_98 9999)).2) 11 x1)) x2) 10 ((20 * x1) + (g_ga (g_pa ((f_X10_asked__ σ w0_21 w0_51 (f_X10_in x3 w0_98 9999)).2) 9 ((20 * x1) + (g_ga ((f_X10_asked__ σ w0_21 w0_51 (f_X10_in x3 w0_98 9999)).2) 11 x1)) x2) 11 x1)) x3) 11 x1 ((g_ga (g_pa (g_pa ((f_X10_asked__ σ w0_21 w0_51 (f_X10_in x3 w0_98 9999)).2) 9 ((20 * x1) + (g_ga ((f_X10_asked__ σ w0_21 w0_51 (f_X10_in x3 w0_98 9999)).2) 11 x1)) x2) 10 ((20 * x1) + (g_ga (g_pa ((f_X10_asked__ σ w0_21 w0_51 (f_X10_in x3 w0_98 9999)).2) 9 ((20 * x1) + (g_ga ((f_X10_asked__ σ w0_21 w0_51 (f_X10_in x3 w0_98 9999)).2) 11 x1)) x2) 11 x1)) x3) 11 x1) + 1)) x1 q_168 e_168) kb_X10_goesThrough ki_X10_goesThrough ks_X10_goesThrough km_X10_180 ⟨Nat.le_of_ble_eq_true rfl, Nat.le_of_ble_eq_true rfl, rfl, rfl⟩ (by decide) mE_0 rfl hl.1 rfl (Nat.le_of_ble_eq_true rfl) ⟨Nat.zero_le _, Nat.zero_le _⟩ dX10_punch_168 (fun H locs hI => ?_)
          refine lv_pop hx hb dX10_punch_171 rfl ?_
          refine lv_aload_n hx hb dX10_punch_172 rfl (lv_at hl 1 rfl) ?_
          refine g_get F hI (by decide) mE_0 rfl ku_X10 22 (by decide) kf_X10_174 rfl dX10_punch_173 ?_
          have h := Option.some.inj h
          subst h
          exact hq _ _ _ _ hI dX10_punch_176
        · have h := (if_pos c_117).symm.trans h
          refine lv_iconst (v := 0) hx hb dX10_punch_120 (by decide) ?_
          have h := Option.some.inj h
          subst h
          exact hq _ _ _ _ hI dX10_punch_121
      refine lv_if_ne (tgt := 62) hx hb dX10_punch_55 (by decide) (fun c_55 => ?_) (fun c_55 => ?_)
      · have h := (if_neg c_55).symm.trans h
        refine lv_aload_n hx hb dX10_punch_62 rfl (lv_at hl 1 rfl) ?_
        refine g_get F hI (by decide) mE_0 rfl ku_X10 14 (by decide) kf_X10_44 rfl dX10_punch_63 ?_
        refine lv_iload_n hx hb dX10_punch_66 rfl (lv_at hl 2 rfl) ?_
        obtain ⟨g_67, h⟩ := g_guard h
        refine g_iald F hI (by decide) mE_a11 0 rfl g_67 dX10_punch_67 ?_
        refine lv_if_le (tgt := 92) hx hb dX10_punch_68 (by decide) (fun c_68 => ?_) (fun c_68 => ?_)
        · have h := (if_pos c_68).symm.trans h
          refine lv_aload_n hx hb dX10_punch_92 rfl (lv_at hl 1 rfl) ?_
          refine g_get F hI (by decide) mE_0 rfl ku_X10 11 (by decide) kf_X10_35 rfl dX10_punch_93 ?_
          refine lv_iload_n hx hb dX10_punch_96 rfl (lv_at hl 2 rfl) ?_
          obtain ⟨g_97, h⟩ := g_guard h
          refine g_iald F hI (by decide) mE_a8 0 rfl g_97 dX10_punch_97 ?_
          exact J98 _ _ _ _ h hI (lv_sub hl [1, 2, 3, 4, 5, 0] rfl)
        · have h := (if_neg c_68).symm.trans h
          refine lv_aload_n hx hb dX10_punch_71 rfl (lv_at hl 1 rfl) ?_
          refine g_get F hI (by decide) mE_0 rfl ku_X10 13 (by decide) kf_X10_41 rfl dX10_punch_72 ?_
          refine lv_bipush (v := 20) hx hb dX10_punch_75 (by decide) ?_
          refine lv_iload_n hx hb dX10_punch_77 rfl (lv_at hl 2 rfl) ?_
          refine lv_imul hx hb dX10_punch_78 ?_
          refine lv_aload_n hx hb dX10_punch_79 rfl (lv_at hl 1 rfl) ?_
          refine g_get F hI (by decide) mE_0 rfl ku_X10 14 (by decide) kf_X10_44 rfl dX10_punch_80 ?_
          refine lv_iload_n hx hb dX10_punch_83 rfl (lv_at hl 2 rfl) ?_
          obtain ⟨g_84, h⟩ := g_guard h
          refine g_iald F hI (by decide) mE_a11 0 rfl g_84 dX10_punch_84 ?_
          refine lv_iadd hx hb dX10_punch_85 ?_
          refine lv_iconst (v := 1) hx hb dX10_punch_86 (by decide) ?_
          refine lv_isub hx hb dX10_punch_87 ?_
          obtain ⟨g_88, h⟩ := g_guard h
          refine g_iald F hI (by decide) mE_a10 0 rfl g_88 dX10_punch_88 ?_
          refine lv_goto (tgt := 98) hx hb dX10_punch_89 (by decide) ?_
          exact J98 _ _ _ _ h hI (lv_sub hl [1, 2, 3, 4, 5, 0] rfl)
      · have h := (if_pos c_55).symm.trans h
        refine lv_iconst (v := 0) hx hb dX10_punch_58 (by decide) ?_
        refine lv_goto (tgt := 98) hx hb dX10_punch_59 (by decide) ?_
        exact J98 _ _ _ _ h hI (lv_sub hl [1, 2, 3, 4, 5, 0] rfl)
    obtain ⟨j50, hj50, h⟩ := gJoin0_in h
    have J50 : ∀ (H : Heap) (locs : List Loc) (ls : Array Slot), j50  = some out → g_S 21 D a (mE a cI cZ σ) s.heap H locs → lv_has ls 7 [(0, .ref (a 0)), (1, .int x1), (2, .int x2), (3, .int x3), (4, .int w0_21)] → W p l e rmX10_punch s m args below meth c H locs 0 0 Q (F0 m 50 ls []) := by
      intro  H locs ls h hI hl
      rw [hj50] at h
      refine lv_iconst (v := 0) hx hb dX10_punch_50 (by decide) ?_
      exact J51 _ _ _ _ h hI (lv_sub hl [0, 1, 2, 3, 4] rfl)
    refine lv_if_eq (tgt := 50) hx hb dX10_punch_25 (by decide) (fun c_25 => ?_) (fun c_25 => ?_)
    · have h := (if_pos c_25).symm.trans h
      exact J50 _ _ _ h hI (lv_sub hl [1, 2, 3, 4, 0] rfl)
    · have h := (if_neg c_25).symm.trans h
      refine lv_aload_n hx hb dX10_punch_28 rfl (lv_at hl 1 rfl) ?_
      refine g_get F hI (by decide) mE_0 rfl ku_X10 16 (by decide) kf_X10_151 rfl dX10_punch_29 ?_
      refine lv_if_eq (tgt := 50) hx hb dX10_punch_32 (by decide) (fun c_32 => ?_) (fun c_32 => ?_)
      · have h := (if_pos c_32).symm.trans h
        exact J50 _ _ _ h hI (lv_sub hl [1, 2, 3, 4, 0] rfl)
      · have h := (if_neg c_32).symm.trans h
        refine lv_aload_n hx hb dX10_punch_35 rfl (lv_at hl 1 rfl) ?_
        refine g_get F hI (by decide) mE_0 rfl ku_X10 14 (by decide) kf_X10_44 rfl dX10_punch_36 ?_
        refine lv_iload_n hx hb dX10_punch_39 rfl (lv_at hl 2 rfl) ?_
        obtain ⟨g_40, h⟩ := g_guard h
        refine g_iald F hI (by decide) mE_a11 0 rfl g_40 dX10_punch_40 ?_
        refine lv_bipush (v := 20) hx hb dX10_punch_41 (by decide) ?_
        refine lv_icmp_ge (tgt := 50) hx hb dX10_punch_43 (by decide) (fun c_43 => ?_) (fun c_43 => ?_)
        · have h := (if_pos c_43).symm.trans h
          exact J50 _ _ _ h hI (lv_sub hl [1, 2, 3, 4, 0] rfl)
        · have h := (if_neg c_43).symm.trans h
          refine lv_iconst (v := 1) hx hb dX10_punch_46 (by decide) ?_
          refine lv_goto (tgt := 51) hx hb dX10_punch_47 (by decide) ?_
          exact J51 _ _ _ _ h hI (lv_sub hl [1, 2, 3, 4, 0] rfl)
  obtain ⟨j20, hj20, h⟩ := gJoin0_in h
  have J20 : ∀ (H : Heap) (locs : List Loc) (ls : Array Slot), j20  = some out → g_S 21 D a (mE a cI cZ σ) s.heap H locs → lv_has ls 7 [(0, .ref (a 0)), (1, .int x1), (2, .int x2), (3, .int x3)] → W p l e rmX10_punch s m args below meth c H locs 0 0 Q (F0 m 20 ls []) := by
    intro  H locs ls h hI hl
    rw [hj20] at h
    refine lv_iconst (v := 0) hx hb dX10_punch_20 (by decide) ?_
    exact J21 _ _ _ _ h hI (lv_sub hl [0, 1, 2, 3] rfl)
  refine lv_if_eq (tgt := 20) hx hb dX10_punch_5 (by decide) (fun c_5 => ?_) (fun c_5 => ?_)
  · have h := (if_pos c_5).symm.trans h
    exact J20 _ _ _ h hI (lv_sub hl [0, 1, 2, 3] rfl)
  · have h := (if_neg c_5).symm.trans h
    refine lv_aload_n hx hb dX10_punch_8 rfl (lv_at hl 0 rfl) ?_
    refine lv_iload_n hx hb dX10_punch_9 rfl (lv_at hl 2 rfl) ?_
    refine g_callVi (E' := mE a cI cZ σ) (k0 := 0) (As := [.int x2]) (rest := []) F hI (c_X10_isControl l D a cI cZ F.2.2 σ x2) kb_X10_isControl ki_X10_isControl ks_X10_isControl km_X10_140 ⟨Nat.le_of_ble_eq_true rfl, Nat.le_of_ble_eq_true rfl, rfl, rfl⟩ (by decide) mE_0 rfl hl.1 rfl (Nat.le_of_ble_eq_true rfl) ⟨Nat.zero_le _, Nat.zero_le _⟩ dX10_punch_10 (fun H locs hI => ?_)
    refine lv_if_eq (tgt := 20) hx hb dX10_punch_13 (by decide) (fun c_13 => ?_) (fun c_13 => ?_)
    · have h := (if_pos c_13).symm.trans h
      exact J20 _ _ _ h hI (lv_sub hl [0, 1, 2, 3] rfl)
    · have h := (if_neg c_13).symm.trans h
      refine lv_iconst (v := 1) hx hb dX10_punch_16 (by decide) ?_
      refine lv_goto (tgt := 21) hx hb dX10_punch_17 (by decide) ?_
      exact J21 _ _ _ _ h hI (lv_sub hl [0, 1, 2, 3] rfl)
/-- SpurlineModel.fail(IZ)Z -/
def f_X10_fail (N : Nat) (σ : gSt) (x1 x2 : Int32) : Option (Int32 × gSt) :=
  gLoop2 (fun self12 (v4_12 : Int32) (v5_12 : Int32) =>
    if 5 ≤ v5_12 then
      if (f_X10_asked_ σ (f_X10_isControl σ x1) v4_12).1 = 0 then
        some (0, (f_X10_asked_ σ (f_X10_isControl σ x1) v4_12).2)
      else
        if x1 < 0 ∨ 12 ≤ x1.toNatClampNeg then none else
        if x1 < 0 ∨ 12 ≤ x1.toNatClampNeg then none else
        some ((g_ga ((f_X10_asked_ σ (f_X10_isControl σ x1) v4_12).2) 3 x1) &&& 1, g_pa ((f_X10_asked_ σ (f_X10_isControl σ x1) v4_12).2) 3 x1 (x2 &&& 1))
    else
      gJoin1 (fun (w0_76 : Int32) =>
          self12 w0_76 (v5_12 + 1)) (fun j76 =>
      gJoin0 (
          j76 0) (fun j75 =>
        if v4_12 = 0 then
          j75
        else
          if v5_12 < 0 ∨ 5 ≤ v5_12.toNatClampNeg then none else
          gJoin0 (
              j76 1) (fun j71 =>
            if g_ga σ 5 v5_12 = 0 then
              j71
            else
              if 6 * v5_12 < 0 ∨ 30 ≤ (6 * v5_12).toNatClampNeg then none else
              if g_ga σ 4 (6 * v5_12) = x1 then
                j75
              else
                if v5_12 < 0 ∨ 5 ≤ v5_12.toNatClampNeg then none else
                if ((6 * v5_12) + (g_ga σ 5 v5_12)) - 1 < 0 ∨ 30 ≤ (((6 * v5_12) + (g_ga σ 5 v5_12)) - 1).toNatClampNeg then none else
                if g_ga σ 4 (((6 * v5_12) + (g_ga σ 5 v5_12)) - 1) = x1 then
                  j75
                else
                  j71)))) N (f_X10_isControl σ x1) 0
abbrev rmX10_fail : Room := { frames := 2, cells := 0, slots := 0, locals := 43 }
theorem kb_X10_fail : g_CB yX10_fail cX10_fail 6 (some .boolean) 2 := ⟨kc_X10_fail, kn_X10, by decide +kernel⟩
set_option maxRecDepth 100000 in
set_option maxHeartbeats 4000000 in
theorem c_X10_fail (l : Launch) (D : va_G) (a : Nat → Nat) (cI cZ : ClassId) (hj : g_Inj 21 a) (N : Nat) (σ : gSt) (x1 x2 : Int32) (out : Int32 × gSt) (hh : f_X10_fail N σ x1 x2 = some out) : Met l yX10_fail (Cond.code yX10_fail cX10_fail 6 (some .boolean) :: gW) rmX10_fail (g_Pc 21 D a (mE a cI cZ σ) [(cI, .int), (cZ, .boolean)] [.ref (a 0), .int x1, .int x2]) (g_Qi 21 D a (mE a cI cZ out.2) out.1) 0 0 (g_Own 21 a) := by
  refine g_metz (by decide) hj (Nat.le_of_ble_eq_true rfl) ?_
  intro p e s m args below meth c Q ls F hl hI hq
  have hx := F.1.1
  have hb := F.1.2.1
  have hl : lv_has ls 6 [(0, .ref (a 0)), (1, .int x1), (2, .int x2)] := hl
  have h := hh
  unfold f_X10_fail at h
  refine lv_aload_n hx hb dX10_fail_0 rfl (lv_at hl 0 rfl) ?_
  refine lv_iload_n hx hb dX10_fail_1 rfl (lv_at hl 1 rfl) ?_
  refine g_callVi (E' := mE a cI cZ σ) (k0 := 0) (As := [.int x1]) (rest := []) F hI (c_X10_isControl l D a cI cZ F.2.2 σ x1) kb_X10_isControl ki_X10_isControl ks_X10_isControl km_X10_140 ⟨Nat.le_of_ble_eq_true rfl, Nat.le_of_ble_eq_true rfl, rfl, rfl⟩ (by decide) mE_0 rfl hl.1 rfl (Nat.le_of_ble_eq_true rfl) ⟨Nat.zero_le _, Nat.zero_le _⟩ dX10_fail_2 (fun H locs hI => ?_)
  refine lv_istore_n (lv' := [(3, .int (f_X10_isControl σ x1)), (0, .ref (a 0)), (1, .int x1), (2, .int x2)]) hx hb dX10_fail_5 rfl hl (by decide) rfl (fun ls hl => ?_)
  refine lv_iload_n hx hb dX10_fail_6 rfl (lv_at hl 0 rfl) ?_
  refine lv_istore (lv' := [(4, .int (f_X10_isControl σ x1)), (3, .int (f_X10_isControl σ x1)), (0, .ref (a 0)), (1, .int x1), (2, .int x2)]) hx hb dX10_fail_7 hl (by decide) rfl (fun ls hl => ?_)
  refine lv_iconst (v := 0) hx hb dX10_fail_9 (by decide) ?_
  refine lv_istore (lv' := [(5, .int 0), (4, .int (f_X10_isControl σ x1)), (3, .int (f_X10_isControl σ x1)), (0, .ref (a 0)), (1, .int x1), (2, .int x2)]) hx hb dX10_fail_10 hl (by decide) rfl (fun ls hl => ?_)
  obtain ⟨lp12, hz12, hs12, h⟩ := gLoop2_in h
  have L12 : ∀ (n : Nat) (v4_12 : Int32) (v5_12 : Int32) (H : Heap) (locs : List Loc) (ls : Array Slot), lp12 n v4_12 v5_12 = some out → g_S 21 D a (mE a cI cZ σ) s.heap H locs → lv_has ls 6 [(0, .ref (a 0)), (1, .int x1), (2, .int x2), (3, .int (f_X10_isControl σ x1)), (4, .int v4_12), (5, .int v5_12)] → W p l e rmX10_fail s m args below meth c H locs 0 0 Q (F0 m 12 ls []) := by
    intro n
    induction n with
    | zero => intro v4_12 v5_12 H locs ls h; rw [hz12] at h; cases h
    | succ n ih12 =>
      intro v4_12 v5_12 H locs ls h hI hl
      rw [hs12] at h
      refine lv_iload hx hb dX10_fail_12 (lv_at hl 5 rfl) ?_
      refine lv_iconst (v := 5) hx hb dX10_fail_14 (by decide) ?_
      refine lv_icmp_ge (tgt := 84) hx hb dX10_fail_15 (by decide) (fun c_15 => ?_) (fun c_15 => ?_)
      · have h := (if_pos c_15).symm.trans h
        refine lv_aload_n hx hb dX10_fail_84 rfl (lv_at hl 0 rfl) ?_
        refine lv_iload_n hx hb dX10_fail_85 rfl (lv_at hl 3 rfl) ?_
        refine lv_iload hx hb dX10_fail_86 (lv_at hl 4 rfl) ?_
        refine g_callVi (E' := mE a cI cZ ((f_X10_asked_ σ (f_X10_isControl σ x1) v4_12).2)) (k0 := 0) (As := [.int (f_X10_isControl σ x1), .int v4_12]) (rest := []) F hI (c_X10_asked_ l D a cI cZ F.2.2 σ (f_X10_isControl σ x1) v4_12) kb_X10_asked_ ki_X10_asked_ ks_X10_asked_ km_X10_95 ⟨Nat.le_of_ble_eq_true rfl, Nat.le_of_ble_eq_true rfl, rfl, rfl⟩ (by decide) mE_0 rfl hl.1 rfl (Nat.le_of_ble_eq_true rfl) ⟨Nat.zero_le _, Nat.zero_le _⟩ dX10_fail_88 (fun H locs hI => ?_)
        refine lv_if_ne (tgt := 96) hx hb dX10_fail_91 (by decide) (fun c_91 => ?_) (fun c_91 => ?_)
        · have h := (if_neg c_91).symm.trans h
          refine lv_aload_n hx hb dX10_fail_96 rfl (lv_at hl 0 rfl) ?_
          refine g_get F hI (by decide) mE_0 rfl ku_X10 5 (by decide) kf_X10_19 rfl dX10_fail_97 ?_
          refine lv_iload_n hx hb dX10_fail_100 rfl (lv_at hl 1 rfl) ?_
          obtain ⟨g_101, h⟩ := g_guard h
          refine g_zald F hI (by decide) mE_a3 1 rfl g_101 dX10_fail_101 ?_
          refine lv_istore (lv' := [(5, .int (g_ga ((f_X10_asked_ σ (f_X10_isControl σ x1) v4_12).2) 3 x1)), (0, .ref (a 0)), (1, .int x1), (2, .int x2), (3, .int (f_X10_isControl σ x1)), (4, .int v4_12)]) hx hb dX10_fail_102 hl (by decide) rfl (fun ls hl => ?_)
          refine lv_aload_n hx hb dX10_fail_104 rfl (lv_at hl 1 rfl) ?_
          refine g_get F hI (by decide) mE_0 rfl ku_X10 5 (by decide) kf_X10_19 rfl dX10_fail_105 ?_
          refine lv_iload_n hx hb dX10_fail_108 rfl (lv_at hl 2 rfl) ?_
          refine lv_iload_n hx hb dX10_fail_109 rfl (lv_at hl 3 rfl) ?_
          obtain ⟨g_110, h⟩ := g_guard h
          refine g_zast (E' := mE a cI cZ (g_pa ((f_X10_asked_ σ (f_X10_isControl σ x1) v4_12).2) 3 x1 (x2 &&& 1))) F hI (by decide) mE_a3 1 rfl g_110 rfl mE_sa dX10_fail_110 (fun H locs hI => ?_)
          refine lv_iload hx hb dX10_fail_111 (lv_at hl 0 rfl) ?_
          have h := Option.some.inj h
          subst h
          exact hq _ _ _ _ _ rfl hI dX10_fail_113
        · have h := (if_pos c_91).symm.trans h
          refine lv_iconst (v := 0) hx hb dX10_fail_94 (by decide) ?_
          have h := Option.some.inj h
          subst h
          exact hq _ _ _ _ _ (show (0 : Int32) &&& 1 = 0 from by decide) hI dX10_fail_95
      · have h := (if_neg c_15).symm.trans h
        refine lv_iload hx hb dX10_fail_18 (lv_at hl 4 rfl) ?_
        obtain ⟨j76, hj76, h⟩ := gJoin1_in h
        have J76 : ∀ (w0_76 : Int32) (H : Heap) (locs : List Loc) (ls : Array Slot), j76 w0_76 = some out → g_S 21 D a (mE a cI cZ σ) s.heap H locs → lv_has ls 6 [(0, .ref (a 0)), (1, .int x1), (2, .int x2), (3, .int (f_X10_isControl σ x1)), (5, .int v5_12)] → W p l e rmX10_fail s m args below meth c H locs 0 0 Q (F0 m 76 ls [.int w0_76]) := by
          intro w0_76 H locs ls h hI hl
          rw [hj76] at h
          refine lv_istore (lv' := [(4, .int w0_76), (0, .ref (a 0)), (1, .int x1), (2, .int x2), (3, .int (f_X10_isControl σ x1)), (5, .int v5_12)]) hx hb dX10_fail_76 hl (by decide) rfl (fun ls hl => ?_)
          refine lv_iinc (v := v5_12 + 1) (lv' := [(5, .int (v5_12 + 1)), (4, .int w0_76), (0, .ref (a 0)), (1, .int x1), (2, .int x2), (3, .int (f_X10_isControl σ x1))]) hx hb dX10_fail_78 hl (k := 5) rfl rfl (by decide) rfl (fun ls hl => ?_)
          refine lv_goto (tgt := 12) hx hb dX10_fail_81 (by decide) ?_
          exact ih12 _ _ _ _ _ h hI (lv_sub hl [2, 3, 4, 5, 1, 0] rfl)
        obtain ⟨j75, hj75, h⟩ := gJoin0_in h
        have J75 : ∀ (H : Heap) (locs : List Loc) (ls : Array Slot), j75  = some out → g_S 21 D a (mE a cI cZ σ) s.heap H locs → lv_has ls 6 [(0, .ref (a 0)), (1, .int x1), (2, .int x2), (3, .int (f_X10_isControl σ x1)), (5, .int v5_12)] → W p l e rmX10_fail s m args below meth c H locs 0 0 Q (F0 m 75 ls []) := by
          intro  H locs ls h hI hl
          rw [hj75] at h
          refine lv_iconst (v := 0) hx hb dX10_fail_75 (by decide) ?_
          exact J76 _ _ _ _ h hI (lv_sub hl [0, 1, 2, 3, 4] rfl)
        refine lv_if_eq (tgt := 75) hx hb dX10_fail_20 (by decide) (fun c_20 => ?_) (fun c_20 => ?_)
        · have h := (if_pos c_20).symm.trans h
          exact J75 _ _ _ h hI (lv_sub hl [0, 1, 2, 3, 5] rfl)
        · have h := (if_neg c_20).symm.trans h
          refine lv_aload_n hx hb dX10_fail_23 rfl (lv_at hl 0 rfl) ?_
          refine g_get F hI (by decide) mE_0 rfl ku_X10 8 (by decide) kf_X10_26 rfl dX10_fail_24 ?_
          refine lv_iload hx hb dX10_fail_27 (lv_at hl 5 rfl) ?_
          obtain ⟨g_29, h⟩ := g_guard h
          refine g_iald F hI (by decide) mE_a5 0 rfl g_29 dX10_fail_29 ?_
          obtain ⟨j71, hj71, h⟩ := gJoin0_in h
          have J71 : ∀ (H : Heap) (locs : List Loc) (ls : Array Slot), j71  = some out → g_S 21 D a (mE a cI cZ σ) s.heap H locs → lv_has ls 6 [(0, .ref (a 0)), (1, .int x1), (2, .int x2), (3, .int (f_X10_isControl σ x1)), (5, .int v5_12)] → W p l e rmX10_fail s m args below meth c H locs 0 0 Q (F0 m 71 ls []) := by
            intro  H locs ls h hI hl
            rw [hj71] at h
            refine lv_iconst (v := 1) hx hb dX10_fail_71 (by decide) ?_
            refine lv_goto (tgt := 76) hx hb dX10_fail_72 (by decide) ?_
            exact J76 _ _ _ _ h hI (lv_sub hl [0, 1, 2, 3, 4] rfl)
          refine lv_if_eq (tgt := 71) hx hb dX10_fail_30 (by decide) (fun c_30 => ?_) (fun c_30 => ?_)
          · have h := (if_pos c_30).symm.trans h
            exact J71 _ _ _ h hI (lv_sub hl [0, 1, 2, 3, 5] rfl)
          · have h := (if_neg c_30).symm.trans h
            refine lv_aload_n hx hb dX10_fail_33 rfl (lv_at hl 0 rfl) ?_
            refine g_get F hI (by decide) mE_0 rfl ku_X10 7 (by decide) kf_X10_23 rfl dX10_fail_34 ?_
            refine lv_bipush (v := 6) hx hb dX10_fail_37 (by decide) ?_
            refine lv_iload hx hb dX10_fail_39 (lv_at hl 5 rfl) ?_
            refine lv_imul hx hb dX10_fail_41 ?_
            obtain ⟨g_42, h⟩ := g_guard h
            refine g_iald F hI (by decide) mE_a4 0 rfl g_42 dX10_fail_42 ?_
            refine lv_iload_n hx hb dX10_fail_43 rfl (lv_at hl 1 rfl) ?_
            refine lv_icmp_eq (tgt := 75) hx hb dX10_fail_44 (by decide) (fun c_44 => ?_) (fun c_44 => ?_)
            · have h := (if_pos c_44).symm.trans h
              exact J75 _ _ _ h hI (lv_sub hl [0, 1, 2, 3, 5] rfl)
            · have h := (if_neg c_44).symm.trans h
              refine lv_aload_n hx hb dX10_fail_47 rfl (lv_at hl 0 rfl) ?_
              refine g_get F hI (by decide) mE_0 rfl ku_X10 7 (by decide) kf_X10_23 rfl dX10_fail_48 ?_
              refine lv_bipush (v := 6) hx hb dX10_fail_51 (by decide) ?_
              refine lv_iload hx hb dX10_fail_53 (lv_at hl 5 rfl) ?_
              refine lv_imul hx hb dX10_fail_55 ?_
              refine lv_aload_n hx hb dX10_fail_56 rfl (lv_at hl 0 rfl) ?_
              refine g_get F hI (by decide) mE_0 rfl ku_X10 8 (by decide) kf_X10_26 rfl dX10_fail_57 ?_
              refine lv_iload hx hb dX10_fail_60 (lv_at hl 5 rfl) ?_
              obtain ⟨g_62, h⟩ := g_guard h
              refine g_iald F hI (by decide) mE_a5 0 rfl g_62 dX10_fail_62 ?_
              refine lv_iadd hx hb dX10_fail_63 ?_
              refine lv_iconst (v := 1) hx hb dX10_fail_64 (by decide) ?_
              refine lv_isub hx hb dX10_fail_65 ?_
              obtain ⟨g_66, h⟩ := g_guard h
              refine g_iald F hI (by decide) mE_a4 0 rfl g_66 dX10_fail_66 ?_
              refine lv_iload_n hx hb dX10_fail_67 rfl (lv_at hl 1 rfl) ?_
              refine lv_icmp_eq (tgt := 75) hx hb dX10_fail_68 (by decide) (fun c_68 => ?_) (fun c_68 => ?_)
              · have h := (if_pos c_68).symm.trans h
                exact J75 _ _ _ h hI (lv_sub hl [0, 1, 2, 3, 5] rfl)
              · have h := (if_neg c_68).symm.trans h
                exact J71 _ _ _ h hI (lv_sub hl [0, 1, 2, 3, 5] rfl)
  exact L12 _ _ _ _ _ _ h hI (lv_sub hl [3, 4, 5, 2, 1, 0] rfl)
/-- SpurlineModel.runners()I -/
def f_X10_runners (σ : gSt) : Int32 × gSt :=
  ((g_sf σ 6 0).2 3, g_sf σ 6 0)
abbrev rmX10_runners : Room := { frames := 0, cells := 0, slots := 0, locals := 0 }
theorem kb_X10_runners : g_CB yX10_runners cX10_runners 1 (some .int) 0 := ⟨kc_X10_runners, kn_X10, by decide +kernel⟩
set_option maxRecDepth 100000 in
set_option maxHeartbeats 4000000 in
theorem c_X10_runners (l : Launch) (D : va_G) (a : Nat → Nat) (cI cZ : ClassId) (hj : g_Inj 21 a) (σ : gSt) : Met l yX10_runners (Cond.code yX10_runners cX10_runners 1 (some .int) :: gW) rmX10_runners (g_Pc 21 D a (mE a cI cZ σ) [(cI, .int), (cZ, .boolean)] [.ref (a 0)]) (g_Qi 21 D a (mE a cI cZ (f_X10_runners σ).2) (f_X10_runners σ).1) 0 0 (g_Own 21 a) := by
  generalize hh : f_X10_runners σ = out
  refine g_meti (by decide) hj (Nat.le_of_ble_eq_true rfl) ?_
  intro p e s m args below meth c Q ls F hl hI hq
  have hx := F.1.1
  have hb := F.1.2.1
  have hl : lv_has ls 1 [(0, .ref (a 0))] := hl
  have h := hh
  unfold f_X10_runners at h
  refine lv_aload_n hx hb dX10_runners_0 rfl (lv_at hl 0 rfl) ?_
  refine lv_iconst (v := 0) hx hb dX10_runners_1 (by decide) ?_
  refine g_put (E' := mE a cI cZ (g_sf σ 6 0)) F hI (by decide) mE_0 rfl ku_X10 tyX10_ok nmX10 26 (by decide) kf_X10_78 rfl rfl rfl rfl (Nat.le_of_ble_eq_true rfl) rfl mE_sf dX10_runners_2 (fun H locs hI => ?_)
  refine lv_aload_n hx hb dX10_runners_5 rfl (lv_at hl 0 rfl) ?_
  refine g_get F hI (by decide) mE_0 rfl ku_X10 15 (by decide) kf_X10_88 rfl dX10_runners_6 ?_
  subst h
  exact hq _ _ _ _ hI dX10_runners_9
/-- SpurlineModel.startOf(I)I -/
def f_X10_startOf (N : Nat) (σ : gSt) (x1 : Int32) : Option (Int32 × gSt) :=
  if (f_X10_asked σ (f_X10_isRunner σ x1)).1 = 0 then
    some (0, (f_X10_asked σ (f_X10_isRunner σ x1)).2)
  else
    if x1 < 0 ∨ 24 ≤ x1.toNatClampNeg then none else
    some (g_ga ((f_X10_asked σ (f_X10_isRunner σ x1)).2) 8 x1, (f_X10_asked σ (f_X10_isRunner σ x1)).2)
abbrev rmX10_startOf : Room := { frames := 2, cells := 0, slots := 0, locals := 43 }
theorem kb_X10_startOf : g_CB yX10_startOf cX10_startOf 2 (some .int) 1 := ⟨kc_X10_startOf, kn_X10, by decide +kernel⟩
set_option maxRecDepth 100000 in
set_option maxHeartbeats 4000000 in
theorem c_X10_startOf (l : Launch) (D : va_G) (a : Nat → Nat) (cI cZ : ClassId) (hj : g_Inj 21 a) (N : Nat) (σ : gSt) (x1 : Int32) (out : Int32 × gSt) (hh : f_X10_startOf N σ x1 = some out) : Met l yX10_startOf (Cond.code yX10_startOf cX10_startOf 2 (some .int) :: gW) rmX10_startOf (g_Pc 21 D a (mE a cI cZ σ) [(cI, .int), (cZ, .boolean)] [.ref (a 0), .int x1]) (g_Qi 21 D a (mE a cI cZ out.2) out.1) 0 0 (g_Own 21 a) := by
  refine g_meti (by decide) hj (Nat.le_of_ble_eq_true rfl) ?_
  intro p e s m args below meth c Q ls F hl hI hq
  have hx := F.1.1
  have hb := F.1.2.1
  have hl : lv_has ls 2 [(0, .ref (a 0)), (1, .int x1)] := hl
  have h := hh
  unfold f_X10_startOf at h
  refine lv_aload_n hx hb dX10_startOf_0 rfl (lv_at hl 0 rfl) ?_
  refine lv_aload_n hx hb dX10_startOf_1 rfl (lv_at hl 0 rfl) ?_
  refine lv_iload_n hx hb dX10_startOf_2 rfl (lv_at hl 1 rfl) ?_
  refine g_callVi (E' := mE a cI cZ σ) (k0 := 0) (As := [.int x1]) (rest := [.ref (a 0)]) F hI (c_X10_isRunner l D a cI cZ F.2.2 σ x1) kb_X10_isRunner ki_X10_isRunner ks_X10_isRunner km_X10_177 ⟨Nat.le_of_ble_eq_true rfl, Nat.le_of_ble_eq_true rfl, rfl, rfl⟩ (by decide) mE_0 rfl hl.1 rfl (Nat.le_of_ble_eq_true rfl) ⟨Nat.zero_le _, Nat.zero_le _⟩ dX10_startOf_3 (fun H locs hI => ?_)
  refine g_callVi (E' := mE a cI cZ ((f_X10_asked σ (f_X10_isRunner σ x1)).2)) (k0 := 0) (As := [.int (f_X10_isRunner σ x1)]) (rest := []) F hI (c_X10_asked l D a cI cZ F.2.2 σ (f_X10_isRunner σ x1)) kb_X10_asked ki_X10_asked ks_X10_asked km_X10_103 ⟨Nat.le_of_ble_eq_true rfl, Nat.le_of_ble_eq_true rfl, rfl, rfl⟩ (by decide) mE_0 rfl hl.1 rfl (Nat.le_of_ble_eq_true rfl) ⟨Nat.zero_le _, Nat.zero_le _⟩ dX10_startOf_6 (fun H locs hI => ?_)
  refine lv_if_eq (tgt := 21) hx hb dX10_startOf_9 (by decide) (fun c_9 => ?_) (fun c_9 => ?_)
  · have h := (if_pos c_9).symm.trans h
    refine lv_iconst (v := 0) hx hb dX10_startOf_21 (by decide) ?_
    have h := Option.some.inj h
    subst h
    exact hq _ _ _ _ hI dX10_startOf_22
  · have h := (if_neg c_9).symm.trans h
    refine lv_aload_n hx hb dX10_startOf_12 rfl (lv_at hl 0 rfl) ?_
    refine g_get F hI (by decide) mE_0 rfl ku_X10 11 (by decide) kf_X10_35 rfl dX10_startOf_13 ?_
    refine lv_iload_n hx hb dX10_startOf_16 rfl (lv_at hl 1 rfl) ?_
    obtain ⟨g_17, h⟩ := g_guard h
    refine g_iald F hI (by decide) mE_a8 0 rfl g_17 dX10_startOf_17 ?_
    refine lv_goto (tgt := 22) hx hb dX10_startOf_18 (by decide) ?_
    have h := Option.some.inj h
    subst h
    exact hq _ _ _ _ hI dX10_startOf_22
/-- SpurlineModel.state(I)I -/
def f_X10_state (N : Nat) (σ : gSt) (x1 : Int32) : Option (Int32 × gSt) :=
  (f_X10_goesThrough N σ x1).bind (fun (q_2 : Int32 × gSt) =>
  if q_2.1 = 0 then
    if x1 < 0 ∨ 24 ≤ x1.toNatClampNeg then none else
    if x1 < 0 ∨ 24 ≤ x1.toNatClampNeg then none else
    if g_ga q_2.2 6 x1 < 0 ∨ 5 ≤ (g_ga q_2.2 6 x1).toNatClampNeg then none else
    if ((6 * (g_ga q_2.2 6 x1)) + (g_ga q_2.2 5 (g_ga q_2.2 6 x1))) - 1 < 0 ∨ 30 ≤ (((6 * (g_ga q_2.2 6 x1)) + (g_ga q_2.2 5 (g_ga q_2.2 6 x1))) - 1).toNatClampNeg then none else
    gLoop2 (fun self47 (v3_47 : Int32) (v4_47 : Int32) =>
      if x1 < 0 ∨ 24 ≤ x1.toNatClampNeg then none else
      if (20 * x1) + (g_ga q_2.2 11 x1) ≤ v4_47 then
        some (v3_47, q_2.2)
      else
        if v4_47 < 0 ∨ 480 ≤ v4_47.toNatClampNeg then none else
        gJoin1 (fun (w0_79 : Int32) =>
            self47 w0_79 (v4_47 + 1)) (fun j79 =>
          if g_ga q_2.2 9 v4_47 = g_ga q_2.2 4 (((6 * (g_ga q_2.2 6 x1)) + (g_ga q_2.2 5 (g_ga q_2.2 6 x1))) - 1) then
            j79 2
          else
            j79 v3_47)) N 0 (20 * x1)
  else
    some (1, q_2.2))
abbrev rmX10_state : Room := { frames := 1, cells := 0, slots := 0, locals := 25 }
theorem kb_X10_state : g_CB yX10_state cX10_state 5 (some .int) 1 := ⟨kc_X10_state, kn_X10, by decide +kernel⟩
set_option maxRecDepth 100000 in
set_option maxHeartbeats 4000000 in
theorem c_X10_state (l : Launch) (D : va_G) (a : Nat → Nat) (cI cZ : ClassId) (hj : g_Inj 21 a) (N : Nat) (σ : gSt) (x1 : Int32) (out : Int32 × gSt) (hh : f_X10_state N σ x1 = some out) : Met l yX10_state (Cond.code yX10_state cX10_state 5 (some .int) :: gW) rmX10_state (g_Pc 21 D a (mE a cI cZ σ) [(cI, .int), (cZ, .boolean)] [.ref (a 0), .int x1]) (g_Qi 21 D a (mE a cI cZ out.2) out.1) 0 0 (g_Own 21 a) := by
  refine g_meti (by decide) hj (Nat.le_of_ble_eq_true rfl) ?_
  intro p e s m args below meth c Q ls F hl hI hq
  have hx := F.1.1
  have hb := F.1.2.1
  have hl : lv_has ls 5 [(0, .ref (a 0)), (1, .int x1)] := hl
  have h := hh
  unfold f_X10_state at h
  refine lv_aload_n hx hb dX10_state_0 rfl (lv_at hl 0 rfl) ?_
  refine lv_iload_n hx hb dX10_state_1 rfl (lv_at hl 1 rfl) ?_
  obtain ⟨q_2, e_2, h⟩ := gBind_in h
  refine g_callVi (E' := mE a cI cZ q_2.2) (k0 := 0) (As := [.int x1]) (rest := []) F hI (c_X10_goesThrough l D a cI cZ F.2.2 N σ x1 q_2 e_2) kb_X10_goesThrough ki_X10_goesThrough ks_X10_goesThrough km_X10_180 ⟨Nat.le_of_ble_eq_true rfl, Nat.le_of_ble_eq_true rfl, rfl, rfl⟩ (by decide) mE_0 rfl hl.1 rfl (Nat.le_of_ble_eq_true rfl) ⟨Nat.zero_le _, Nat.zero_le _⟩ dX10_state_2 (fun H locs hI => ?_)
  refine lv_if_eq (tgt := 10) hx hb dX10_state_5 (by decide) (fun c_5 => ?_) (fun c_5 => ?_)
  · have h := (if_pos c_5).symm.trans h
    refine lv_aload_n hx hb dX10_state_10 rfl (lv_at hl 0 rfl) ?_
    refine g_get F hI (by decide) mE_0 rfl ku_X10 7 (by decide) kf_X10_23 rfl dX10_state_11 ?_
    refine lv_bipush (v := 6) hx hb dX10_state_14 (by decide) ?_
    refine lv_aload_n hx hb dX10_state_16 rfl (lv_at hl 0 rfl) ?_
    refine g_get F hI (by decide) mE_0 rfl ku_X10 9 (by decide) kf_X10_29 rfl dX10_state_17 ?_
    refine lv_iload_n hx hb dX10_state_20 rfl (lv_at hl 1 rfl) ?_
    obtain ⟨g_21, h⟩ := g_guard h
    refine g_iald F hI (by decide) mE_a6 0 rfl g_21 dX10_state_21 ?_
    refine lv_imul hx hb dX10_state_22 ?_
    refine lv_aload_n hx hb dX10_state_23 rfl (lv_at hl 0 rfl) ?_
    refine g_get F hI (by decide) mE_0 rfl ku_X10 8 (by decide) kf_X10_26 rfl dX10_state_24 ?_
    refine lv_aload_n hx hb dX10_state_27 rfl (lv_at hl 0 rfl) ?_
    refine g_get F hI (by decide) mE_0 rfl ku_X10 9 (by decide) kf_X10_29 rfl dX10_state_28 ?_
    refine lv_iload_n hx hb dX10_state_31 rfl (lv_at hl 1 rfl) ?_
    obtain ⟨g_32, h⟩ := g_guard h
    refine g_iald F hI (by decide) mE_a6 0 rfl g_32 dX10_state_32 ?_
    obtain ⟨g_33, h⟩ := g_guard h
    refine g_iald F hI (by decide) mE_a5 0 rfl g_33 dX10_state_33 ?_
    refine lv_iadd hx hb dX10_state_34 ?_
    refine lv_iconst (v := 1) hx hb dX10_state_35 (by decide) ?_
    refine lv_isub hx hb dX10_state_36 ?_
    obtain ⟨g_37, h⟩ := g_guard h
    refine g_iald F hI (by decide) mE_a4 0 rfl g_37 dX10_state_37 ?_
    refine lv_istore_n (lv' := [(2, .int (g_ga q_2.2 4 (((6 * (g_ga q_2.2 6 x1)) + (g_ga q_2.2 5 (g_ga q_2.2 6 x1))) - 1))), (0, .ref (a 0)), (1, .int x1)]) hx hb dX10_state_38 rfl hl (by decide) rfl (fun ls hl => ?_)
    refine lv_iconst (v := 0) hx hb dX10_state_39 (by decide) ?_
    refine lv_istore_n (lv' := [(3, .int 0), (2, .int (g_ga q_2.2 4 (((6 * (g_ga q_2.2 6 x1)) + (g_ga q_2.2 5 (g_ga q_2.2 6 x1))) - 1))), (0, .ref (a 0)), (1, .int x1)]) hx hb dX10_state_40 rfl hl (by decide) rfl (fun ls hl => ?_)
    refine lv_bipush (v := 20) hx hb dX10_state_41 (by decide) ?_
    refine lv_iload_n hx hb dX10_state_43 rfl (lv_at hl 3 rfl) ?_
    refine lv_imul hx hb dX10_state_44 ?_
    refine lv_istore (lv' := [(4, .int (20 * x1)), (3, .int 0), (2, .int (g_ga q_2.2 4 (((6 * (g_ga q_2.2 6 x1)) + (g_ga q_2.2 5 (g_ga q_2.2 6 x1))) - 1))), (0, .ref (a 0)), (1, .int x1)]) hx hb dX10_state_45 hl (by decide) rfl (fun ls hl => ?_)
    obtain ⟨lp47, hz47, hs47, h⟩ := gLoop2_in h
    have L47 : ∀ (n : Nat) (v3_47 : Int32) (v4_47 : Int32) (H : Heap) (locs : List Loc) (ls : Array Slot), lp47 n v3_47 v4_47 = some out → g_S 21 D a (mE a cI cZ q_2.2) s.heap H locs → lv_has ls 5 [(0, .ref (a 0)), (1, .int x1), (2, .int (g_ga q_2.2 4 (((6 * (g_ga q_2.2 6 x1)) + (g_ga q_2.2 5 (g_ga q_2.2 6 x1))) - 1))), (3, .int v3_47), (4, .int v4_47)] → W p l e rmX10_state s m args below meth c H locs 0 0 Q (F0 m 47 ls []) := by
      intro n
      induction n with
      | zero => intro v3_47 v4_47 H locs ls h; rw [hz47] at h; cases h
      | succ n ih47 =>
        intro v3_47 v4_47 H locs ls h hI hl
        rw [hs47] at h
        refine lv_iload hx hb dX10_state_47 (lv_at hl 4 rfl) ?_
        refine lv_bipush (v := 20) hx hb dX10_state_49 (by decide) ?_
        refine lv_iload_n hx hb dX10_state_51 rfl (lv_at hl 1 rfl) ?_
        refine lv_imul hx hb dX10_state_52 ?_
        refine lv_aload_n hx hb dX10_state_53 rfl (lv_at hl 0 rfl) ?_
        refine g_get F hI (by decide) mE_0 rfl ku_X10 14 (by decide) kf_X10_44 rfl dX10_state_54 ?_
        refine lv_iload_n hx hb dX10_state_57 rfl (lv_at hl 1 rfl) ?_
        obtain ⟨g_58, h⟩ := g_guard h
        refine g_iald F hI (by decide) mE_a11 0 rfl g_58 dX10_state_58 ?_
        refine lv_iadd hx hb dX10_state_59 ?_
        refine lv_icmp_ge (tgt := 86) hx hb dX10_state_60 (by decide) (fun c_60 => ?_) (fun c_60 => ?_)
        · have h := (if_pos c_60).symm.trans h
          refine lv_iload_n hx hb dX10_state_86 rfl (lv_at hl 3 rfl) ?_
          have h := Option.some.inj h
          subst h
          exact hq _ _ _ _ hI dX10_state_87
        · have h := (if_neg c_60).symm.trans h
          refine lv_aload_n hx hb dX10_state_63 rfl (lv_at hl 0 rfl) ?_
          refine g_get F hI (by decide) mE_0 rfl ku_X10 12 (by decide) kf_X10_38 rfl dX10_state_64 ?_
          refine lv_iload hx hb dX10_state_67 (lv_at hl 4 rfl) ?_
          obtain ⟨g_69, h⟩ := g_guard h
          refine g_iald F hI (by decide) mE_a9 0 rfl g_69 dX10_state_69 ?_
          refine lv_iload_n hx hb dX10_state_70 rfl (lv_at hl 2 rfl) ?_
          obtain ⟨j79, hj79, h⟩ := gJoin1_in h
          have J79 : ∀ (w0_79 : Int32) (H : Heap) (locs : List Loc) (ls : Array Slot), j79 w0_79 = some out → g_S 21 D a (mE a cI cZ q_2.2) s.heap H locs → lv_has ls 5 [(0, .ref (a 0)), (1, .int x1), (2, .int (g_ga q_2.2 4 (((6 * (g_ga q_2.2 6 x1)) + (g_ga q_2.2 5 (g_ga q_2.2 6 x1))) - 1))), (4, .int v4_47)] → W p l e rmX10_state s m args below meth c H locs 0 0 Q (F0 m 79 ls [.int w0_79]) := by
            intro w0_79 H locs ls h hI hl
            rw [hj79] at h
            refine lv_istore_n (lv' := [(3, .int w0_79), (0, .ref (a 0)), (1, .int x1), (2, .int (g_ga q_2.2 4 (((6 * (g_ga q_2.2 6 x1)) + (g_ga q_2.2 5 (g_ga q_2.2 6 x1))) - 1))), (4, .int v4_47)]) hx hb dX10_state_79 rfl hl (by decide) rfl (fun ls hl => ?_)
            refine lv_iinc (v := v4_47 + 1) (lv' := [(4, .int (v4_47 + 1)), (3, .int w0_79), (0, .ref (a 0)), (1, .int x1), (2, .int (g_ga q_2.2 4 (((6 * (g_ga q_2.2 6 x1)) + (g_ga q_2.2 5 (g_ga q_2.2 6 x1))) - 1)))]) hx hb dX10_state_80 hl (k := 4) rfl rfl (by decide) rfl (fun ls hl => ?_)
            refine lv_goto (tgt := 47) hx hb dX10_state_83 (by decide) ?_
            exact ih47 _ _ _ _ _ h hI (lv_sub hl [2, 3, 4, 1, 0] rfl)
          refine lv_icmp_ne (tgt := 78) hx hb dX10_state_71 (by decide) (fun c_71 => ?_) (fun c_71 => ?_)
          · have h := (if_neg c_71).symm.trans h
            refine lv_iload_n hx hb dX10_state_78 rfl (lv_at hl 3 rfl) ?_
            exact J79 _ _ _ _ h hI (lv_sub hl [0, 1, 2, 4] rfl)
          · have h := (if_pos c_71).symm.trans h
            refine lv_iconst (v := 2) hx hb dX10_state_74 (by decide) ?_
            refine lv_goto (tgt := 79) hx hb dX10_state_75 (by decide) ?_
            exact J79 _ _ _ _ h hI (lv_sub hl [0, 1, 2, 4] rfl)
    exact L47 _ _ _ _ _ _ h hI (lv_sub hl [3, 4, 2, 1, 0] rfl)
  · have h := (if_neg c_5).symm.trans h
    refine lv_iconst (v := 1) hx hb dX10_state_8 (by decide) ?_
    have h := Option.some.inj h
    subst h
    exact hq _ _ _ _ hI dX10_state_9
/-- SpurlineModel.stateOf(I)I -/
def f_X10_stateOf (N : Nat) (σ : gSt) (x1 : Int32) : Option (Int32 × gSt) :=
  if (f_X10_asked σ (f_X10_isRunner σ x1)).1 = 0 then
    some (0, (f_X10_asked σ (f_X10_isRunner σ x1)).2)
  else
    (f_X10_state N ((f_X10_asked σ (f_X10_isRunner σ x1)).2) x1).bind (fun (q_14 : Int32 × gSt) =>
    some (q_14.1, q_14.2))
abbrev rmX10_stateOf : Room := { frames := 2, cells := 0, slots := 0, locals := 49 }
theorem kb_X10_stateOf : g_CB yX10_stateOf cX10_stateOf 2 (some .int) 1 := ⟨kc_X10_stateOf, kn_X10, by decide +kernel⟩
set_option maxRecDepth 100000 in
set_option maxHeartbeats 4000000 in
theorem c_X10_stateOf (l : Launch) (D : va_G) (a : Nat → Nat) (cI cZ : ClassId) (hj : g_Inj 21 a) (N : Nat) (σ : gSt) (x1 : Int32) (out : Int32 × gSt) (hh : f_X10_stateOf N σ x1 = some out) : Met l yX10_stateOf (Cond.code yX10_stateOf cX10_stateOf 2 (some .int) :: gW) rmX10_stateOf (g_Pc 21 D a (mE a cI cZ σ) [(cI, .int), (cZ, .boolean)] [.ref (a 0), .int x1]) (g_Qi 21 D a (mE a cI cZ out.2) out.1) 0 0 (g_Own 21 a) := by
  refine g_meti (by decide) hj (Nat.le_of_ble_eq_true rfl) ?_
  intro p e s m args below meth c Q ls F hl hI hq
  have hx := F.1.1
  have hb := F.1.2.1
  have hl : lv_has ls 2 [(0, .ref (a 0)), (1, .int x1)] := hl
  have h := hh
  unfold f_X10_stateOf at h
  refine lv_aload_n hx hb dX10_stateOf_0 rfl (lv_at hl 0 rfl) ?_
  refine lv_aload_n hx hb dX10_stateOf_1 rfl (lv_at hl 0 rfl) ?_
  refine lv_iload_n hx hb dX10_stateOf_2 rfl (lv_at hl 1 rfl) ?_
  refine g_callVi (E' := mE a cI cZ σ) (k0 := 0) (As := [.int x1]) (rest := [.ref (a 0)]) F hI (c_X10_isRunner l D a cI cZ F.2.2 σ x1) kb_X10_isRunner ki_X10_isRunner ks_X10_isRunner km_X10_177 ⟨Nat.le_of_ble_eq_true rfl, Nat.le_of_ble_eq_true rfl, rfl, rfl⟩ (by decide) mE_0 rfl hl.1 rfl (Nat.le_of_ble_eq_true rfl) ⟨Nat.zero_le _, Nat.zero_le _⟩ dX10_stateOf_3 (fun H locs hI => ?_)
  refine g_callVi (E' := mE a cI cZ ((f_X10_asked σ (f_X10_isRunner σ x1)).2)) (k0 := 0) (As := [.int (f_X10_isRunner σ x1)]) (rest := []) F hI (c_X10_asked l D a cI cZ F.2.2 σ (f_X10_isRunner σ x1)) kb_X10_asked ki_X10_asked ks_X10_asked km_X10_103 ⟨Nat.le_of_ble_eq_true rfl, Nat.le_of_ble_eq_true rfl, rfl, rfl⟩ (by decide) mE_0 rfl hl.1 rfl (Nat.le_of_ble_eq_true rfl) ⟨Nat.zero_le _, Nat.zero_le _⟩ dX10_stateOf_6 (fun H locs hI => ?_)
  refine lv_if_eq (tgt := 20) hx hb dX10_stateOf_9 (by decide) (fun c_9 => ?_) (fun c_9 => ?_)
  · have h := (if_pos c_9).symm.trans h
    refine lv_iconst (v := 0) hx hb dX10_stateOf_20 (by decide) ?_
    have h := Option.some.inj h
    subst h
    exact hq _ _ _ _ hI dX10_stateOf_21
  · have h := (if_neg c_9).symm.trans h
    refine lv_aload_n hx hb dX10_stateOf_12 rfl (lv_at hl 0 rfl) ?_
    refine lv_iload_n hx hb dX10_stateOf_13 rfl (lv_at hl 1 rfl) ?_
    obtain ⟨q_14, e_14, h⟩ := gBind_in h
    refine g_callVi (E' := mE a cI cZ q_14.2) (k0 := 0) (As := [.int x1]) (rest := []) F hI (c_X10_state l D a cI cZ F.2.2 N ((f_X10_asked σ (f_X10_isRunner σ x1)).2) x1 q_14 e_14) kb_X10_state ki_X10_state ks_X10_state km_X10_183 ⟨Nat.le_of_ble_eq_true rfl, Nat.le_of_ble_eq_true rfl, rfl, rfl⟩ (by decide) mE_0 rfl hl.1 rfl (Nat.le_of_ble_eq_true rfl) ⟨Nat.zero_le _, Nat.zero_le _⟩ dX10_stateOf_14 (fun H locs hI => ?_)
    refine lv_goto (tgt := 21) hx hb dX10_stateOf_17 (by decide) ?_
    have h := Option.some.inj h
    subst h
    exact hq _ _ _ _ hI dX10_stateOf_21
/-- SpurlineModel.isLeg(II)Z -/
def f_X10_isLeg (N : Nat) (σ : gSt) (x1 x2 : Int32) : Option Int32 :=
  if f_X10_isRunner σ x1 = 0 then
    some 0
  else
    if x1 < 0 ∨ 24 ≤ x1.toNatClampNeg then none else
    if g_ga σ 6 x1 < 0 ∨ 5 ≤ (g_ga σ 6 x1).toNatClampNeg then none else
    if f_X10_in x2 0 ((g_ga σ 5 (g_ga σ 6 x1)) - 2) = 0 then
      some 0
    else
      some 1
abbrev rmX10_isLeg : Room := { frames := 2, cells := 0, slots := 0, locals := 43 }
theorem kb_X10_isLeg : g_CB yX10_isLeg cX10_isLeg 3 (some .boolean) 2 := ⟨kc_X10_isLeg, kn_X10, by decide +kernel⟩
set_option maxRecDepth 100000 in
set_option maxHeartbeats 4000000 in
theorem c_X10_isLeg (l : Launch) (D : va_G) (a : Nat → Nat) (cI cZ : ClassId) (hj : g_Inj 21 a) (N : Nat) (σ : gSt) (x1 x2 : Int32) (out : Int32) (hh : f_X10_isLeg N σ x1 x2 = some out) : Met l yX10_isLeg (Cond.code yX10_isLeg cX10_isLeg 3 (some .boolean) :: gW) rmX10_isLeg (g_Pc 21 D a (mE a cI cZ σ) [(cI, .int), (cZ, .boolean)] [.ref (a 0), .int x1, .int x2]) (g_Qi 21 D a (mE a cI cZ σ) out) 0 0 (g_Own 21 a) := by
  refine g_metz (by decide) hj (Nat.le_of_ble_eq_true rfl) ?_
  intro p e s m args below meth c Q ls F hl hI hq
  have hx := F.1.1
  have hb := F.1.2.1
  have hl : lv_has ls 3 [(0, .ref (a 0)), (1, .int x1), (2, .int x2)] := hl
  have h := hh
  unfold f_X10_isLeg at h
  refine lv_aload_n hx hb dX10_isLeg_0 rfl (lv_at hl 0 rfl) ?_
  refine lv_iload_n hx hb dX10_isLeg_1 rfl (lv_at hl 1 rfl) ?_
  refine g_callVi (E' := mE a cI cZ σ) (k0 := 0) (As := [.int x1]) (rest := []) F hI (c_X10_isRunner l D a cI cZ F.2.2 σ x1) kb_X10_isRunner ki_X10_isRunner ks_X10_isRunner km_X10_177 ⟨Nat.le_of_ble_eq_true rfl, Nat.le_of_ble_eq_true rfl, rfl, rfl⟩ (by decide) mE_0 rfl hl.1 rfl (Nat.le_of_ble_eq_true rfl) ⟨Nat.zero_le _, Nat.zero_le _⟩ dX10_isLeg_2 (fun H locs hI => ?_)
  refine lv_if_eq (tgt := 33) hx hb dX10_isLeg_5 (by decide) (fun c_5 => ?_) (fun c_5 => ?_)
  · have h := (if_pos c_5).symm.trans h
    refine lv_iconst (v := 0) hx hb dX10_isLeg_33 (by decide) ?_
    have h := Option.some.inj h
    subst h
    exact hq _ _ _ _ _ (show (0 : Int32) &&& 1 = 0 from by decide) hI dX10_isLeg_34
  · have h := (if_neg c_5).symm.trans h
    refine lv_iload_n hx hb dX10_isLeg_8 rfl (lv_at hl 2 rfl) ?_
    refine lv_iconst (v := 0) hx hb dX10_isLeg_9 (by decide) ?_
    refine lv_aload_n hx hb dX10_isLeg_10 rfl (lv_at hl 0 rfl) ?_
    refine g_get F hI (by decide) mE_0 rfl ku_X10 8 (by decide) kf_X10_26 rfl dX10_isLeg_11 ?_
    refine lv_aload_n hx hb dX10_isLeg_14 rfl (lv_at hl 0 rfl) ?_
    refine g_get F hI (by decide) mE_0 rfl ku_X10 9 (by decide) kf_X10_29 rfl dX10_isLeg_15 ?_
    refine lv_iload_n hx hb dX10_isLeg_18 rfl (lv_at hl 1 rfl) ?_
    obtain ⟨g_19, h⟩ := g_guard h
    refine g_iald F hI (by decide) mE_a6 0 rfl g_19 dX10_isLeg_19 ?_
    obtain ⟨g_20, h⟩ := g_guard h
    refine g_iald F hI (by decide) mE_a5 0 rfl g_20 dX10_isLeg_20 ?_
    refine lv_iconst (v := 2) hx hb dX10_isLeg_21 (by decide) ?_
    refine lv_isub hx hb dX10_isLeg_22 ?_
    refine g_callSi (E' := mE a cI cZ σ) (As := [.int x2, .int 0, .int ((g_ga σ 5 (g_ga σ 6 x1)) - 2)]) (rest := []) F hI (c_X10_in l D a cI cZ F.2.2 σ x2 0 ((g_ga σ 5 (g_ga σ 6 x1)) - 2)) kb_X10_in kt_X10_in km_X10_81 ⟨Nat.le_of_ble_eq_true rfl, Nat.le_of_ble_eq_true rfl, rfl, rfl⟩ hl.1 rfl (Nat.le_of_ble_eq_true rfl) ⟨Nat.zero_le _, Nat.zero_le _⟩ dX10_isLeg_23 (fun H locs hI => ?_)
    refine lv_if_eq (tgt := 33) hx hb dX10_isLeg_26 (by decide) (fun c_26 => ?_) (fun c_26 => ?_)
    · have h := (if_pos c_26).symm.trans h
      refine lv_iconst (v := 0) hx hb dX10_isLeg_33 (by decide) ?_
      have h := Option.some.inj h
      subst h
      exact hq _ _ _ _ _ (show (0 : Int32) &&& 1 = 0 from by decide) hI dX10_isLeg_34
    · have h := (if_neg c_26).symm.trans h
      refine lv_iconst (v := 1) hx hb dX10_isLeg_29 (by decide) ?_
      refine lv_goto (tgt := 34) hx hb dX10_isLeg_30 (by decide) ?_
      have h := Option.some.inj h
      subst h
      exact hq _ _ _ _ _ (show (1 : Int32) &&& 1 = 1 from by decide) hI dX10_isLeg_34
/-- SpurlineModel.isVoid(II)Z -/
def f_X10_isVoid (N : Nat) (σ : gSt) (x1 x2 : Int32) : Option Int32 :=
  if x1 < 0 ∨ 24 ≤ x1.toNatClampNeg then none else
  if (6 * (g_ga σ 6 x1)) + x2 < 0 ∨ 30 ≤ ((6 * (g_ga σ 6 x1)) + x2).toNatClampNeg then none else
  if g_ga σ 4 ((6 * (g_ga σ 6 x1)) + x2) < 0 ∨ 12 ≤ (g_ga σ 4 ((6 * (g_ga σ 6 x1)) + x2)).toNatClampNeg then none else
  if g_ga σ 3 (g_ga σ 4 ((6 * (g_ga σ 6 x1)) + x2)) = 0 then
    if ((6 * (g_ga σ 6 x1)) + x2) + 1 < 0 ∨ 30 ≤ (((6 * (g_ga σ 6 x1)) + x2) + 1).toNatClampNeg then none else
    if g_ga σ 4 (((6 * (g_ga σ 6 x1)) + x2) + 1) < 0 ∨ 12 ≤ (g_ga σ 4 (((6 * (g_ga σ 6 x1)) + x2) + 1)).toNatClampNeg then none else
    if g_ga σ 3 (g_ga σ 4 (((6 * (g_ga σ 6 x1)) + x2) + 1)) = 0 then
      some 0
    else
      some 1
  else
    some 1
abbrev rmX10_isVoid : Room := { frames := 0, cells := 0, slots := 0, locals := 0 }
theorem kb_X10_isVoid : g_CB yX10_isVoid cX10_isVoid 4 (some .boolean) 2 := ⟨kc_X10_isVoid, kn_X10, by decide +kernel⟩
set_option maxRecDepth 100000 in
set_option maxHeartbeats 4000000 in
theorem c_X10_isVoid (l : Launch) (D : va_G) (a : Nat → Nat) (cI cZ : ClassId) (hj : g_Inj 21 a) (N : Nat) (σ : gSt) (x1 x2 : Int32) (out : Int32) (hh : f_X10_isVoid N σ x1 x2 = some out) : Met l yX10_isVoid (Cond.code yX10_isVoid cX10_isVoid 4 (some .boolean) :: gW) rmX10_isVoid (g_Pc 21 D a (mE a cI cZ σ) [(cI, .int), (cZ, .boolean)] [.ref (a 0), .int x1, .int x2]) (g_Qi 21 D a (mE a cI cZ σ) out) 0 0 (g_Own 21 a) := by
  refine g_metz (by decide) hj (Nat.le_of_ble_eq_true rfl) ?_
  intro p e s m args below meth c Q ls F hl hI hq
  have hx := F.1.1
  have hb := F.1.2.1
  have hl : lv_has ls 4 [(0, .ref (a 0)), (1, .int x1), (2, .int x2)] := hl
  have h := hh
  unfold f_X10_isVoid at h
  refine lv_bipush (v := 6) hx hb dX10_isVoid_0 (by decide) ?_
  refine lv_aload_n hx hb dX10_isVoid_2 rfl (lv_at hl 0 rfl) ?_
  refine g_get F hI (by decide) mE_0 rfl ku_X10 9 (by decide) kf_X10_29 rfl dX10_isVoid_3 ?_
  refine lv_iload_n hx hb dX10_isVoid_6 rfl (lv_at hl 1 rfl) ?_
  obtain ⟨g_7, h⟩ := g_guard h
  refine g_iald F hI (by decide) mE_a6 0 rfl g_7 dX10_isVoid_7 ?_
  refine lv_imul hx hb dX10_isVoid_8 ?_
  refine lv_iload_n hx hb dX10_isVoid_9 rfl (lv_at hl 2 rfl) ?_
  refine lv_iadd hx hb dX10_isVoid_10 ?_
  refine lv_istore_n (lv' := [(3, .int ((6 * (g_ga σ 6 x1)) + x2)), (0, .ref (a 0)), (1, .int x1), (2, .int x2)]) hx hb dX10_isVoid_11 rfl hl (by decide) rfl (fun ls hl => ?_)
  refine lv_aload_n hx hb dX10_isVoid_12 rfl (lv_at hl 1 rfl) ?_
  refine g_get F hI (by decide) mE_0 rfl ku_X10 5 (by decide) kf_X10_19 rfl dX10_isVoid_13 ?_
  refine lv_aload_n hx hb dX10_isVoid_16 rfl (lv_at hl 1 rfl) ?_
  refine g_get F hI (by decide) mE_0 rfl ku_X10 7 (by decide) kf_X10_23 rfl dX10_isVoid_17 ?_
  refine lv_iload_n hx hb dX10_isVoid_20 rfl (lv_at hl 0 rfl) ?_
  obtain ⟨g_21, h⟩ := g_guard h
  refine g_iald F hI (by decide) mE_a4 0 rfl g_21 dX10_isVoid_21 ?_
  obtain ⟨g_22, h⟩ := g_guard h
  refine g_zald F hI (by decide) mE_a3 1 rfl g_22 dX10_isVoid_22 ?_
  refine lv_if_ne (tgt := 42) hx hb dX10_isVoid_23 (by decide) (fun c_23 => ?_) (fun c_23 => ?_)
  · have h := (if_neg c_23).symm.trans h
    refine lv_iconst (v := 1) hx hb dX10_isVoid_42 (by decide) ?_
    refine lv_goto (tgt := 47) hx hb dX10_isVoid_43 (by decide) ?_
    have h := Option.some.inj h
    subst h
    exact hq _ _ _ _ _ (show (1 : Int32) &&& 1 = 1 from by decide) hI dX10_isVoid_47
  · have h := (if_pos c_23).symm.trans h
    refine lv_aload_n hx hb dX10_isVoid_26 rfl (lv_at hl 1 rfl) ?_
    refine g_get F hI (by decide) mE_0 rfl ku_X10 5 (by decide) kf_X10_19 rfl dX10_isVoid_27 ?_
    refine lv_aload_n hx hb dX10_isVoid_30 rfl (lv_at hl 1 rfl) ?_
    refine g_get F hI (by decide) mE_0 rfl ku_X10 7 (by decide) kf_X10_23 rfl dX10_isVoid_31 ?_
    refine lv_iload_n hx hb dX10_isVoid_34 rfl (lv_at hl 0 rfl) ?_
    refine lv_iconst (v := 1) hx hb dX10_isVoid_35 (by decide) ?_
    refine lv_iadd hx hb dX10_isVoid_36 ?_
    obtain ⟨g_37, h⟩ := g_guard h
    refine g_iald F hI (by decide) mE_a4 0 rfl g_37 dX10_isVoid_37 ?_
    obtain ⟨g_38, h⟩ := g_guard h
    refine g_zald F hI (by decide) mE_a3 1 rfl g_38 dX10_isVoid_38 ?_
    refine lv_if_eq (tgt := 46) hx hb dX10_isVoid_39 (by decide) (fun c_39 => ?_) (fun c_39 => ?_)
    · have h := (if_pos c_39).symm.trans h
      refine lv_iconst (v := 0) hx hb dX10_isVoid_46 (by decide) ?_
      have h := Option.some.inj h
      subst h
      exact hq _ _ _ _ _ (show (0 : Int32) &&& 1 = 0 from by decide) hI dX10_isVoid_47
    · have h := (if_neg c_39).symm.trans h
      refine lv_iconst (v := 1) hx hb dX10_isVoid_42 (by decide) ?_
      refine lv_goto (tgt := 47) hx hb dX10_isVoid_43 (by decide) ?_
      have h := Option.some.inj h
      subst h
      exact hq _ _ _ _ _ (show (1 : Int32) &&& 1 = 1 from by decide) hI dX10_isVoid_47
/-- SpurlineModel.splitOf(II)I -/
def f_X10_splitOf (N : Nat) (σ : gSt) (x1 x2 : Int32) : Option Int32 :=
  (f_X10_isVoid N σ x1 x2).bind (fun (r_3 : Int32) =>
  if r_3 = 0 then
    if x2 < 0 ∨ 6 ≤ x2.toNatClampNeg then none else
    if g_ga σ 16 x2 = (-1) then
      some (-1)
    else
      if x2 + 1 < 0 ∨ 6 ≤ (x2 + 1).toNatClampNeg then none else
      if g_ga σ 16 (x2 + 1) = (-1) then
        some (-1)
      else
        if x2 + 1 < 0 ∨ 6 ≤ (x2 + 1).toNatClampNeg then none else
        if x2 < 0 ∨ 6 ≤ x2.toNatClampNeg then none else
        some ((g_ga σ 16 (x2 + 1)) - (g_ga σ 16 x2))
  else
    some (-1))
abbrev rmX10_splitOf : Room := { frames := 1, cells := 0, slots := 0, locals := 23 }
theorem kb_X10_splitOf : g_CB yX10_splitOf cX10_splitOf 3 (some .int) 2 := ⟨kc_X10_splitOf, kn_X10, by decide +kernel⟩
set_option maxRecDepth 100000 in
set_option maxHeartbeats 4000000 in
theorem c_X10_splitOf (l : Launch) (D : va_G) (a : Nat → Nat) (cI cZ : ClassId) (hj : g_Inj 21 a) (N : Nat) (σ : gSt) (x1 x2 : Int32) (out : Int32) (hh : f_X10_splitOf N σ x1 x2 = some out) : Met l yX10_splitOf (Cond.code yX10_splitOf cX10_splitOf 3 (some .int) :: gW) rmX10_splitOf (g_Pc 21 D a (mE a cI cZ σ) [(cI, .int), (cZ, .boolean)] [.ref (a 0), .int x1, .int x2]) (g_Qi 21 D a (mE a cI cZ σ) out) 0 0 (g_Own 21 a) := by
  refine g_meti (by decide) hj (Nat.le_of_ble_eq_true rfl) ?_
  intro p e s m args below meth c Q ls F hl hI hq
  have hx := F.1.1
  have hb := F.1.2.1
  have hl : lv_has ls 3 [(0, .ref (a 0)), (1, .int x1), (2, .int x2)] := hl
  have h := hh
  unfold f_X10_splitOf at h
  refine lv_aload_n hx hb dX10_splitOf_0 rfl (lv_at hl 0 rfl) ?_
  refine lv_iload_n hx hb dX10_splitOf_1 rfl (lv_at hl 1 rfl) ?_
  refine lv_iload_n hx hb dX10_splitOf_2 rfl (lv_at hl 2 rfl) ?_
  obtain ⟨r_3, e_3, h⟩ := gBind_in h
  refine g_callVi (E' := mE a cI cZ σ) (k0 := 0) (As := [.int x1, .int x2]) (rest := []) F hI (c_X10_isVoid l D a cI cZ F.2.2 N σ x1 x2 r_3 e_3) kb_X10_isVoid ki_X10_isVoid ks_X10_isVoid km_X10_186 ⟨Nat.le_of_ble_eq_true rfl, Nat.le_of_ble_eq_true rfl, rfl, rfl⟩ (by decide) mE_0 rfl hl.1 rfl (Nat.le_of_ble_eq_true rfl) ⟨Nat.zero_le _, Nat.zero_le _⟩ dX10_splitOf_3 (fun H locs hI => ?_)
  refine lv_if_ne (tgt := 31) hx hb dX10_splitOf_6 (by decide) (fun c_6 => ?_) (fun c_6 => ?_)
  · have h := (if_neg c_6).symm.trans h
    refine lv_iconst (v := -1) hx hb dX10_splitOf_31 (by decide) ?_
    refine lv_goto (tgt := 50) hx hb dX10_splitOf_32 (by decide) ?_
    have h := Option.some.inj h
    subst h
    exact hq _ _ _ _ hI dX10_splitOf_50
  · have h := (if_pos c_6).symm.trans h
    refine lv_aload_n hx hb dX10_splitOf_9 rfl (lv_at hl 0 rfl) ?_
    refine g_get F hI (by decide) mE_0 rfl ku_X10 21 (by decide) kf_X10_59 rfl dX10_splitOf_10 ?_
    refine lv_iload_n hx hb dX10_splitOf_13 rfl (lv_at hl 2 rfl) ?_
    obtain ⟨g_14, h⟩ := g_guard h
    refine g_iald F hI (by decide) mE_a16 0 rfl g_14 dX10_splitOf_14 ?_
    refine lv_iconst (v := -1) hx hb dX10_splitOf_15 (by decide) ?_
    refine lv_icmp_eq (tgt := 31) hx hb dX10_splitOf_16 (by decide) (fun c_16 => ?_) (fun c_16 => ?_)
    · have h := (if_pos c_16).symm.trans h
      refine lv_iconst (v := -1) hx hb dX10_splitOf_31 (by decide) ?_
      refine lv_goto (tgt := 50) hx hb dX10_splitOf_32 (by decide) ?_
      have h := Option.some.inj h
      subst h
      exact hq _ _ _ _ hI dX10_splitOf_50
    · have h := (if_neg c_16).symm.trans h
      refine lv_aload_n hx hb dX10_splitOf_19 rfl (lv_at hl 0 rfl) ?_
      refine g_get F hI (by decide) mE_0 rfl ku_X10 21 (by decide) kf_X10_59 rfl dX10_splitOf_20 ?_
      refine lv_iload_n hx hb dX10_splitOf_23 rfl (lv_at hl 2 rfl) ?_
      refine lv_iconst (v := 1) hx hb dX10_splitOf_24 (by decide) ?_
      refine lv_iadd hx hb dX10_splitOf_25 ?_
      obtain ⟨g_26, h⟩ := g_guard h
      refine g_iald F hI (by decide) mE_a16 0 rfl g_26 dX10_splitOf_26 ?_
      refine lv_iconst (v := -1) hx hb dX10_splitOf_27 (by decide) ?_
      refine lv_icmp_ne (tgt := 35) hx hb dX10_splitOf_28 (by decide) (fun c_28 => ?_) (fun c_28 => ?_)
      · have h := (if_neg c_28).symm.trans h
        refine lv_aload_n hx hb dX10_splitOf_35 rfl (lv_at hl 0 rfl) ?_
        refine g_get F hI (by decide) mE_0 rfl ku_X10 21 (by decide) kf_X10_59 rfl dX10_splitOf_36 ?_
        refine lv_iload_n hx hb dX10_splitOf_39 rfl (lv_at hl 2 rfl) ?_
        refine lv_iconst (v := 1) hx hb dX10_splitOf_40 (by decide) ?_
        refine lv_iadd hx hb dX10_splitOf_41 ?_
        obtain ⟨g_42, h⟩ := g_guard h
        refine g_iald F hI (by decide) mE_a16 0 rfl g_42 dX10_splitOf_42 ?_
        refine lv_aload_n hx hb dX10_splitOf_43 rfl (lv_at hl 0 rfl) ?_
        refine g_get F hI (by decide) mE_0 rfl ku_X10 21 (by decide) kf_X10_59 rfl dX10_splitOf_44 ?_
        refine lv_iload_n hx hb dX10_splitOf_47 rfl (lv_at hl 2 rfl) ?_
        obtain ⟨g_48, h⟩ := g_guard h
        refine g_iald F hI (by decide) mE_a16 0 rfl g_48 dX10_splitOf_48 ?_
        refine lv_isub hx hb dX10_splitOf_49 ?_
        have h := Option.some.inj h
        subst h
        exact hq _ _ _ _ hI dX10_splitOf_50
      · have h := (if_pos c_28).symm.trans h
        refine lv_iconst (v := -1) hx hb dX10_splitOf_31 (by decide) ?_
        refine lv_goto (tgt := 50) hx hb dX10_splitOf_32 (by decide) ?_
        have h := Option.some.inj h
        subst h
        exact hq _ _ _ _ hI dX10_splitOf_50
/-- SpurlineModel.split(II)I -/
def f_X10_split (N : Nat) (σ : gSt) (x1 x2 : Int32) : Option (Int32 × gSt) :=
  (f_X10_isLeg N σ x1 x2).bind (fun (r_4 : Int32) =>
  if (f_X10_asked σ r_4).1 = 0 then
    some (0, (f_X10_asked σ r_4).2)
  else
    (f_X10_goesThrough N ((f_X10_asked σ r_4).2) x1).bind (fun (q_17 : Int32 × gSt) =>
    (f_X10_splitOf N q_17.2 x1 x2).bind (fun (r_24 : Int32) =>
    some (r_24, q_17.2))))
abbrev rmX10_split : Room := { frames := 3, cells := 0, slots := 0, locals := 65 }
theorem kb_X10_split : g_CB yX10_split cX10_split 3 (some .int) 2 := ⟨kc_X10_split, kn_X10, by decide +kernel⟩
set_option maxRecDepth 100000 in
set_option maxHeartbeats 4000000 in
theorem c_X10_split (l : Launch) (D : va_G) (a : Nat → Nat) (cI cZ : ClassId) (hj : g_Inj 21 a) (N : Nat) (σ : gSt) (x1 x2 : Int32) (out : Int32 × gSt) (hh : f_X10_split N σ x1 x2 = some out) : Met l yX10_split (Cond.code yX10_split cX10_split 3 (some .int) :: gW) rmX10_split (g_Pc 21 D a (mE a cI cZ σ) [(cI, .int), (cZ, .boolean)] [.ref (a 0), .int x1, .int x2]) (g_Qi 21 D a (mE a cI cZ out.2) out.1) 0 0 (g_Own 21 a) := by
  refine g_meti (by decide) hj (Nat.le_of_ble_eq_true rfl) ?_
  intro p e s m args below meth c Q ls F hl hI hq
  have hx := F.1.1
  have hb := F.1.2.1
  have hl : lv_has ls 3 [(0, .ref (a 0)), (1, .int x1), (2, .int x2)] := hl
  have h := hh
  unfold f_X10_split at h
  refine lv_aload_n hx hb dX10_split_0 rfl (lv_at hl 0 rfl) ?_
  refine lv_aload_n hx hb dX10_split_1 rfl (lv_at hl 0 rfl) ?_
  refine lv_iload_n hx hb dX10_split_2 rfl (lv_at hl 1 rfl) ?_
  refine lv_iload_n hx hb dX10_split_3 rfl (lv_at hl 2 rfl) ?_
  obtain ⟨r_4, e_4, h⟩ := gBind_in h
  refine g_callVi (E' := mE a cI cZ σ) (k0 := 0) (As := [.int x1, .int x2]) (rest := [.ref (a 0)]) F hI (c_X10_isLeg l D a cI cZ F.2.2 N σ x1 x2 r_4 e_4) kb_X10_isLeg ki_X10_isLeg ks_X10_isLeg km_X10_189 ⟨Nat.le_of_ble_eq_true rfl, Nat.le_of_ble_eq_true rfl, rfl, rfl⟩ (by decide) mE_0 rfl hl.1 rfl (Nat.le_of_ble_eq_true rfl) ⟨Nat.zero_le _, Nat.zero_le _⟩ dX10_split_4 (fun H locs hI => ?_)
  refine g_callVi (E' := mE a cI cZ ((f_X10_asked σ r_4).2)) (k0 := 0) (As := [.int r_4]) (rest := []) F hI (c_X10_asked l D a cI cZ F.2.2 σ r_4) kb_X10_asked ki_X10_asked ks_X10_asked km_X10_103 ⟨Nat.le_of_ble_eq_true rfl, Nat.le_of_ble_eq_true rfl, rfl, rfl⟩ (by decide) mE_0 rfl hl.1 rfl (Nat.le_of_ble_eq_true rfl) ⟨Nat.zero_le _, Nat.zero_le _⟩ dX10_split_7 (fun H locs hI => ?_)
  refine lv_if_ne (tgt := 15) hx hb dX10_split_10 (by decide) (fun c_10 => ?_) (fun c_10 => ?_)
  · have h := (if_neg c_10).symm.trans h
    refine lv_aload_n hx hb dX10_split_15 rfl (lv_at hl 0 rfl) ?_
    refine lv_iload_n hx hb dX10_split_16 rfl (lv_at hl 1 rfl) ?_
    obtain ⟨q_17, e_17, h⟩ := gBind_in h
    refine g_callVi (E' := mE a cI cZ q_17.2) (k0 := 0) (As := [.int x1]) (rest := []) F hI (c_X10_goesThrough l D a cI cZ F.2.2 N ((f_X10_asked σ r_4).2) x1 q_17 e_17) kb_X10_goesThrough ki_X10_goesThrough ks_X10_goesThrough km_X10_180 ⟨Nat.le_of_ble_eq_true rfl, Nat.le_of_ble_eq_true rfl, rfl, rfl⟩ (by decide) mE_0 rfl hl.1 rfl (Nat.le_of_ble_eq_true rfl) ⟨Nat.zero_le _, Nat.zero_le _⟩ dX10_split_17 (fun H locs hI => ?_)
    refine lv_pop hx hb dX10_split_20 rfl ?_
    refine lv_aload_n hx hb dX10_split_21 rfl (lv_at hl 0 rfl) ?_
    refine lv_iload_n hx hb dX10_split_22 rfl (lv_at hl 1 rfl) ?_
    refine lv_iload_n hx hb dX10_split_23 rfl (lv_at hl 2 rfl) ?_
    obtain ⟨r_24, e_24, h⟩ := gBind_in h
    refine g_callVi (E' := mE a cI cZ q_17.2) (k0 := 0) (As := [.int x1, .int x2]) (rest := []) F hI (c_X10_splitOf l D a cI cZ F.2.2 N q_17.2 x1 x2 r_24 e_24) kb_X10_splitOf ki_X10_splitOf ks_X10_splitOf km_X10_192 ⟨Nat.le_of_ble_eq_true rfl, Nat.le_of_ble_eq_true rfl, rfl, rfl⟩ (by decide) mE_0 rfl hl.1 rfl (Nat.le_of_ble_eq_true rfl) ⟨Nat.zero_le _, Nat.zero_le _⟩ dX10_split_24 (fun H locs hI => ?_)
    have h := Option.some.inj h
    subst h
    exact hq _ _ _ _ hI dX10_split_27
  · have h := (if_pos c_10).symm.trans h
    refine lv_iconst (v := 0) hx hb dX10_split_13 (by decide) ?_
    have h := Option.some.inj h
    subst h
    exact hq _ _ _ _ hI dX10_split_14
/-- SpurlineModel.totalOf(I)I -/
def f_X10_totalOf (N : Nat) (σ : gSt) (x1 : Int32) : Option (Int32 × gSt) :=
  (f_X10_state N σ x1).bind (fun (q_2 : Int32 × gSt) =>
  gJoin1 (fun (w0_14 : Int32) =>
      gLoop2 (fun self17 (v2_17 : Int32) (v3_17 : Int32) =>
        if x1 < 0 ∨ 24 ≤ x1.toNatClampNeg then none else
        if g_ga q_2.2 6 x1 < 0 ∨ 5 ≤ (g_ga q_2.2 6 x1).toNatClampNeg then none else
        if (g_ga q_2.2 5 (g_ga q_2.2 6 x1)) - 1 ≤ v3_17 then
          some (v2_17, q_2.2)
        else
          if v2_17 = (-1) then
            some (v2_17, q_2.2)
          else
            (f_X10_isVoid N q_2.2 x1 v3_17).bind (fun (r_43 : Int32) =>
            gJoin1 (fun (w0_59 : Int32) =>
                self17 (v2_17 + w0_59) (v3_17 + 1)) (fun j59 =>
              if r_43 = 0 then
                (f_X10_splitOf N q_2.2 x1 v3_17).bind (fun (r_56 : Int32) =>
                j59 r_56)
              else
                j59 0))) N w0_14 0) (fun j14 =>
    if q_2.1 = 1 then
      j14 0
    else
      j14 (-1)))
abbrev rmX10_totalOf : Room := { frames := 2, cells := 0, slots := 0, locals := 49 }
theorem kb_X10_totalOf : g_CB yX10_totalOf cX10_totalOf 4 (some .int) 1 := ⟨kc_X10_totalOf, kn_X10, by decide +kernel⟩
set_option maxRecDepth 100000 in
set_option maxHeartbeats 4000000 in
theorem c_X10_totalOf (l : Launch) (D : va_G) (a : Nat → Nat) (cI cZ : ClassId) (hj : g_Inj 21 a) (N : Nat) (σ : gSt) (x1 : Int32) (out : Int32 × gSt) (hh : f_X10_totalOf N σ x1 = some out) : Met l yX10_totalOf (Cond.code yX10_totalOf cX10_totalOf 4 (some .int) :: gW) rmX10_totalOf (g_Pc 21 D a (mE a cI cZ σ) [(cI, .int), (cZ, .boolean)] [.ref (a 0), .int x1]) (g_Qi 21 D a (mE a cI cZ out.2) out.1) 0 0 (g_Own 21 a) := by
  refine g_meti (by decide) hj (Nat.le_of_ble_eq_true rfl) ?_
  intro p e s m args below meth c Q ls F hl hI hq
  have hx := F.1.1
  have hb := F.1.2.1
  have hl : lv_has ls 4 [(0, .ref (a 0)), (1, .int x1)] := hl
  have h := hh
  unfold f_X10_totalOf at h
  refine lv_aload_n hx hb dX10_totalOf_0 rfl (lv_at hl 0 rfl) ?_
  refine lv_iload_n hx hb dX10_totalOf_1 rfl (lv_at hl 1 rfl) ?_
  obtain ⟨q_2, e_2, h⟩ := gBind_in h
  refine g_callVi (E' := mE a cI cZ q_2.2) (k0 := 0) (As := [.int x1]) (rest := []) F hI (c_X10_state l D a cI cZ F.2.2 N σ x1 q_2 e_2) kb_X10_state ki_X10_state ks_X10_state km_X10_183 ⟨Nat.le_of_ble_eq_true rfl, Nat.le_of_ble_eq_true rfl, rfl, rfl⟩ (by decide) mE_0 rfl hl.1 rfl (Nat.le_of_ble_eq_true rfl) ⟨Nat.zero_le _, Nat.zero_le _⟩ dX10_totalOf_2 (fun H locs hI => ?_)
  refine lv_iconst (v := 1) hx hb dX10_totalOf_5 (by decide) ?_
  obtain ⟨j14, hj14, h⟩ := gJoin1_in h
  have J14 : ∀ (w0_14 : Int32) (H : Heap) (locs : List Loc) (ls : Array Slot), j14 w0_14 = some out → g_S 21 D a (mE a cI cZ q_2.2) s.heap H locs → lv_has ls 4 [(0, .ref (a 0)), (1, .int x1)] → W p l e rmX10_totalOf s m args below meth c H locs 0 0 Q (F0 m 14 ls [.int w0_14]) := by
    intro w0_14 H locs ls h hI hl
    rw [hj14] at h
    refine lv_istore_n (lv' := [(2, .int w0_14), (0, .ref (a 0)), (1, .int x1)]) hx hb dX10_totalOf_14 rfl hl (by decide) rfl (fun ls hl => ?_)
    refine lv_iconst (v := 0) hx hb dX10_totalOf_15 (by decide) ?_
    refine lv_istore_n (lv' := [(3, .int 0), (2, .int w0_14), (0, .ref (a 0)), (1, .int x1)]) hx hb dX10_totalOf_16 rfl hl (by decide) rfl (fun ls hl => ?_)
    obtain ⟨lp17, hz17, hs17, h⟩ := gLoop2_in h
    have L17 : ∀ (n : Nat) (v2_17 : Int32) (v3_17 : Int32) (H : Heap) (locs : List Loc) (ls : Array Slot), lp17 n v2_17 v3_17 = some out → g_S 21 D a (mE a cI cZ q_2.2) s.heap H locs → lv_has ls 4 [(0, .ref (a 0)), (1, .int x1), (2, .int v2_17), (3, .int v3_17)] → W p l e rmX10_totalOf s m args below meth c H locs 0 0 Q (F0 m 17 ls []) := by
      intro n
      induction n with
      | zero => intro v2_17 v3_17 H locs ls h; rw [hz17] at h; cases h
      | succ n ih17 =>
        intro v2_17 v3_17 H locs ls h hI hl
        rw [hs17] at h
        refine lv_iload_n hx hb dX10_totalOf_17 rfl (lv_at hl 3 rfl) ?_
        refine lv_aload_n hx hb dX10_totalOf_18 rfl (lv_at hl 0 rfl) ?_
        refine g_get F hI (by decide) mE_0 rfl ku_X10 8 (by decide) kf_X10_26 rfl dX10_totalOf_19 ?_
        refine lv_aload_n hx hb dX10_totalOf_22 rfl (lv_at hl 0 rfl) ?_
        refine g_get F hI (by decide) mE_0 rfl ku_X10 9 (by decide) kf_X10_29 rfl dX10_totalOf_23 ?_
        refine lv_iload_n hx hb dX10_totalOf_26 rfl (lv_at hl 1 rfl) ?_
        obtain ⟨g_27, h⟩ := g_guard h
        refine g_iald F hI (by decide) mE_a6 0 rfl g_27 dX10_totalOf_27 ?_
        obtain ⟨g_28, h⟩ := g_guard h
        refine g_iald F hI (by decide) mE_a5 0 rfl g_28 dX10_totalOf_28 ?_
        refine lv_iconst (v := 1) hx hb dX10_totalOf_29 (by decide) ?_
        refine lv_isub hx hb dX10_totalOf_30 ?_
        refine lv_icmp_ge (tgt := 67) hx hb dX10_totalOf_31 (by decide) (fun c_31 => ?_) (fun c_31 => ?_)
        · have h := (if_pos c_31).symm.trans h
          refine lv_iload_n hx hb dX10_totalOf_67 rfl (lv_at hl 2 rfl) ?_
          have h := Option.some.inj h
          subst h
          exact hq _ _ _ _ hI dX10_totalOf_68
        · have h := (if_neg c_31).symm.trans h
          refine lv_iload_n hx hb dX10_totalOf_34 rfl (lv_at hl 2 rfl) ?_
          refine lv_iconst (v := -1) hx hb dX10_totalOf_35 (by decide) ?_
          refine lv_icmp_eq (tgt := 67) hx hb dX10_totalOf_36 (by decide) (fun c_36 => ?_) (fun c_36 => ?_)
          · have h := (if_pos c_36).symm.trans h
            refine lv_iload_n hx hb dX10_totalOf_67 rfl (lv_at hl 2 rfl) ?_
            have h := Option.some.inj h
            subst h
            exact hq _ _ _ _ hI dX10_totalOf_68
          · have h := (if_neg c_36).symm.trans h
            refine lv_iload_n hx hb dX10_totalOf_39 rfl (lv_at hl 2 rfl) ?_
            refine lv_aload_n hx hb dX10_totalOf_40 rfl (lv_at hl 0 rfl) ?_
            refine lv_iload_n hx hb dX10_totalOf_41 rfl (lv_at hl 1 rfl) ?_
            refine lv_iload_n hx hb dX10_totalOf_42 rfl (lv_at hl 3 rfl) ?_
            obtain ⟨r_43, e_43, h⟩ := gBind_in h
            refine g_callVi (E' := mE a cI cZ q_2.2) (k0 := 0) (As := [.int x1, .int v3_17]) (rest := [.int v2_17]) F hI (c_X10_isVoid l D a cI cZ F.2.2 N q_2.2 x1 v3_17 r_43 e_43) kb_X10_isVoid ki_X10_isVoid ks_X10_isVoid km_X10_186 ⟨Nat.le_of_ble_eq_true rfl, Nat.le_of_ble_eq_true rfl, rfl, rfl⟩ (by decide) mE_0 rfl hl.1 rfl (Nat.le_of_ble_eq_true rfl) ⟨Nat.zero_le _, Nat.zero_le _⟩ dX10_totalOf_43 (fun H locs hI => ?_)
            obtain ⟨j59, hj59, h⟩ := gJoin1_in h
            have J59 : ∀ (w0_59 : Int32) (H : Heap) (locs : List Loc) (ls : Array Slot), j59 w0_59 = some out → g_S 21 D a (mE a cI cZ q_2.2) s.heap H locs → lv_has ls 4 [(0, .ref (a 0)), (1, .int x1), (3, .int v3_17)] → W p l e rmX10_totalOf s m args below meth c H locs 0 0 Q (F0 m 59 ls [.int w0_59, .int v2_17]) := by
              intro w0_59 H locs ls h hI hl
              rw [hj59] at h
              refine lv_iadd hx hb dX10_totalOf_59 ?_
              refine lv_istore_n (lv' := [(2, .int (v2_17 + w0_59)), (0, .ref (a 0)), (1, .int x1), (3, .int v3_17)]) hx hb dX10_totalOf_60 rfl hl (by decide) rfl (fun ls hl => ?_)
              refine lv_iinc (v := v3_17 + 1) (lv' := [(3, .int (v3_17 + 1)), (2, .int (v2_17 + w0_59)), (0, .ref (a 0)), (1, .int x1)]) hx hb dX10_totalOf_61 hl (k := 3) rfl rfl (by decide) rfl (fun ls hl => ?_)
              refine lv_goto (tgt := 17) hx hb dX10_totalOf_64 (by decide) ?_
              exact ih17 _ _ _ _ _ h hI (lv_sub hl [2, 3, 1, 0] rfl)
            refine lv_if_eq (tgt := 53) hx hb dX10_totalOf_46 (by decide) (fun c_46 => ?_) (fun c_46 => ?_)
            · have h := (if_pos c_46).symm.trans h
              refine lv_aload_n hx hb dX10_totalOf_53 rfl (lv_at hl 0 rfl) ?_
              refine lv_iload_n hx hb dX10_totalOf_54 rfl (lv_at hl 1 rfl) ?_
              refine lv_iload_n hx hb dX10_totalOf_55 rfl (lv_at hl 3 rfl) ?_
              obtain ⟨r_56, e_56, h⟩ := gBind_in h
              refine g_callVi (E' := mE a cI cZ q_2.2) (k0 := 0) (As := [.int x1, .int v3_17]) (rest := [.int v2_17]) F hI (c_X10_splitOf l D a cI cZ F.2.2 N q_2.2 x1 v3_17 r_56 e_56) kb_X10_splitOf ki_X10_splitOf ks_X10_splitOf km_X10_192 ⟨Nat.le_of_ble_eq_true rfl, Nat.le_of_ble_eq_true rfl, rfl, rfl⟩ (by decide) mE_0 rfl hl.1 rfl (Nat.le_of_ble_eq_true rfl) ⟨Nat.zero_le _, Nat.zero_le _⟩ dX10_totalOf_56 (fun H locs hI => ?_)
              exact J59 _ _ _ _ h hI (lv_sub hl [0, 1, 3] rfl)
            · have h := (if_neg c_46).symm.trans h
              refine lv_iconst (v := 0) hx hb dX10_totalOf_49 (by decide) ?_
              refine lv_goto (tgt := 59) hx hb dX10_totalOf_50 (by decide) ?_
              exact J59 _ _ _ _ h hI (lv_sub hl [0, 1, 3] rfl)
    exact L17 _ _ _ _ _ _ h hI (lv_sub hl [2, 3, 1, 0] rfl)
  refine lv_icmp_ne (tgt := 13) hx hb dX10_totalOf_6 (by decide) (fun c_6 => ?_) (fun c_6 => ?_)
  · have h := (if_neg c_6).symm.trans h
    refine lv_iconst (v := -1) hx hb dX10_totalOf_13 (by decide) ?_
    exact J14 _ _ _ _ h hI (lv_sub hl [0, 1] rfl)
  · have h := (if_pos c_6).symm.trans h
    refine lv_iconst (v := 0) hx hb dX10_totalOf_9 (by decide) ?_
    refine lv_goto (tgt := 14) hx hb dX10_totalOf_10 (by decide) ?_
    exact J14 _ _ _ _ h hI (lv_sub hl [0, 1] rfl)
/-- SpurlineModel.total(I)I -/
def f_X10_total (N : Nat) (σ : gSt) (x1 : Int32) : Option (Int32 × gSt) :=
  if (f_X10_asked σ (f_X10_isRunner σ x1)).1 = 0 then
    some (0, (f_X10_asked σ (f_X10_isRunner σ x1)).2)
  else
    (f_X10_totalOf N ((f_X10_asked σ (f_X10_isRunner σ x1)).2) x1).bind (fun (q_14 : Int32 × gSt) =>
    some (q_14.1, q_14.2))
abbrev rmX10_total : Room := { frames := 3, cells := 0, slots := 0, locals := 72 }
theorem kb_X10_total : g_CB yX10_total cX10_total 2 (some .int) 1 := ⟨kc_X10_total, kn_X10, by decide +kernel⟩
set_option maxRecDepth 100000 in
set_option maxHeartbeats 4000000 in
theorem c_X10_total (l : Launch) (D : va_G) (a : Nat → Nat) (cI cZ : ClassId) (hj : g_Inj 21 a) (N : Nat) (σ : gSt) (x1 : Int32) (out : Int32 × gSt) (hh : f_X10_total N σ x1 = some out) : Met l yX10_total (Cond.code yX10_total cX10_total 2 (some .int) :: gW) rmX10_total (g_Pc 21 D a (mE a cI cZ σ) [(cI, .int), (cZ, .boolean)] [.ref (a 0), .int x1]) (g_Qi 21 D a (mE a cI cZ out.2) out.1) 0 0 (g_Own 21 a) := by
  refine g_meti (by decide) hj (Nat.le_of_ble_eq_true rfl) ?_
  intro p e s m args below meth c Q ls F hl hI hq
  have hx := F.1.1
  have hb := F.1.2.1
  have hl : lv_has ls 2 [(0, .ref (a 0)), (1, .int x1)] := hl
  have h := hh
  unfold f_X10_total at h
  refine lv_aload_n hx hb dX10_total_0 rfl (lv_at hl 0 rfl) ?_
  refine lv_aload_n hx hb dX10_total_1 rfl (lv_at hl 0 rfl) ?_
  refine lv_iload_n hx hb dX10_total_2 rfl (lv_at hl 1 rfl) ?_
  refine g_callVi (E' := mE a cI cZ σ) (k0 := 0) (As := [.int x1]) (rest := [.ref (a 0)]) F hI (c_X10_isRunner l D a cI cZ F.2.2 σ x1) kb_X10_isRunner ki_X10_isRunner ks_X10_isRunner km_X10_177 ⟨Nat.le_of_ble_eq_true rfl, Nat.le_of_ble_eq_true rfl, rfl, rfl⟩ (by decide) mE_0 rfl hl.1 rfl (Nat.le_of_ble_eq_true rfl) ⟨Nat.zero_le _, Nat.zero_le _⟩ dX10_total_3 (fun H locs hI => ?_)
  refine g_callVi (E' := mE a cI cZ ((f_X10_asked σ (f_X10_isRunner σ x1)).2)) (k0 := 0) (As := [.int (f_X10_isRunner σ x1)]) (rest := []) F hI (c_X10_asked l D a cI cZ F.2.2 σ (f_X10_isRunner σ x1)) kb_X10_asked ki_X10_asked ks_X10_asked km_X10_103 ⟨Nat.le_of_ble_eq_true rfl, Nat.le_of_ble_eq_true rfl, rfl, rfl⟩ (by decide) mE_0 rfl hl.1 rfl (Nat.le_of_ble_eq_true rfl) ⟨Nat.zero_le _, Nat.zero_le _⟩ dX10_total_6 (fun H locs hI => ?_)
  refine lv_if_eq (tgt := 20) hx hb dX10_total_9 (by decide) (fun c_9 => ?_) (fun c_9 => ?_)
  · have h := (if_pos c_9).symm.trans h
    refine lv_iconst (v := 0) hx hb dX10_total_20 (by decide) ?_
    have h := Option.some.inj h
    subst h
    exact hq _ _ _ _ hI dX10_total_21
  · have h := (if_neg c_9).symm.trans h
    refine lv_aload_n hx hb dX10_total_12 rfl (lv_at hl 0 rfl) ?_
    refine lv_iload_n hx hb dX10_total_13 rfl (lv_at hl 1 rfl) ?_
    obtain ⟨q_14, e_14, h⟩ := gBind_in h
    refine g_callVi (E' := mE a cI cZ q_14.2) (k0 := 0) (As := [.int x1]) (rest := []) F hI (c_X10_totalOf l D a cI cZ F.2.2 N ((f_X10_asked σ (f_X10_isRunner σ x1)).2) x1 q_14 e_14) kb_X10_totalOf ki_X10_totalOf ks_X10_totalOf km_X10_195 ⟨Nat.le_of_ble_eq_true rfl, Nat.le_of_ble_eq_true rfl, rfl, rfl⟩ (by decide) mE_0 rfl hl.1 rfl (Nat.le_of_ble_eq_true rfl) ⟨Nat.zero_le _, Nat.zero_le _⟩ dX10_total_14 (fun H locs hI => ?_)
    refine lv_goto (tgt := 21) hx hb dX10_total_17 (by decide) ?_
    have h := Option.some.inj h
    subst h
    exact hq _ _ _ _ hI dX10_total_21
/-- SpurlineModel.rank(I)I -/
def f_X10_rank (N : Nat) (σ : gSt) (x1 : Int32) : Option (Int32 × gSt) :=
  if (f_X10_asked σ (f_X10_isRunner σ x1)).1 = 0 then
    some (0, (f_X10_asked σ (f_X10_isRunner σ x1)).2)
  else
    (f_X10_totalOf N ((f_X10_asked σ (f_X10_isRunner σ x1)).2) x1).bind (fun (q_16 : Int32 × gSt) =>
    gJoin1 (fun (w0_30 : Int32) =>
        gLoop3 (fun self34 (v3_34 : Int32) (v4_34 : Int32) (s_34 : gSt) =>
          if s_34.2 3 ≤ v4_34 then
            some (v3_34, s_34)
          else
            if q_16.1 = (-1) then
              some (v3_34, s_34)
            else
              if v4_34 < 0 ∨ 24 ≤ v4_34.toNatClampNeg then none else
              if x1 < 0 ∨ 24 ≤ x1.toNatClampNeg then none else
              gJoin2 (fun (w0_74 : Int32) (s_74 : gSt) =>
                  gJoin1 (fun (w0_94 : Int32) =>
                      self34 (v3_34 + w0_94) (v4_34 + 1) s_74) (fun j94 =>
                  gJoin0 (
                      j94 0) (fun j93 =>
                    if w0_74 = (-1) then
                      j93
                    else
                      if q_16.1 ≤ w0_74 then
                        j93
                      else
                        j94 1))) (fun j74 =>
                if g_ga s_34 6 v4_34 = g_ga s_34 6 x1 then
                  (f_X10_totalOf N s_34 v4_34).bind (fun (q_67 : Int32 × gSt) =>
                  j74 q_67.1 q_67.2)
                else
                  j74 (-1) s_34)) N w0_30 0 q_16.2) (fun j30 =>
      if q_16.1 = (-1) then
        j30 (-1)
      else
        j30 1))
abbrev rmX10_rank : Room := { frames := 3, cells := 0, slots := 0, locals := 72 }
theorem kb_X10_rank : g_CB yX10_rank cX10_rank 6 (some .int) 1 := ⟨kc_X10_rank, kn_X10, by decide +kernel⟩
set_option maxRecDepth 100000 in
set_option maxHeartbeats 4000000 in
theorem c_X10_rank (l : Launch) (D : va_G) (a : Nat → Nat) (cI cZ : ClassId) (hj : g_Inj 21 a) (N : Nat) (σ : gSt) (x1 : Int32) (out : Int32 × gSt) (hh : f_X10_rank N σ x1 = some out) : Met l yX10_rank (Cond.code yX10_rank cX10_rank 6 (some .int) :: gW) rmX10_rank (g_Pc 21 D a (mE a cI cZ σ) [(cI, .int), (cZ, .boolean)] [.ref (a 0), .int x1]) (g_Qi 21 D a (mE a cI cZ out.2) out.1) 0 0 (g_Own 21 a) := by
  refine g_meti (by decide) hj (Nat.le_of_ble_eq_true rfl) ?_
  intro p e s m args below meth c Q ls F hl hI hq
  have hx := F.1.1
  have hb := F.1.2.1
  have hl : lv_has ls 6 [(0, .ref (a 0)), (1, .int x1)] := hl
  have h := hh
  unfold f_X10_rank at h
  refine lv_aload_n hx hb dX10_rank_0 rfl (lv_at hl 0 rfl) ?_
  refine lv_aload_n hx hb dX10_rank_1 rfl (lv_at hl 0 rfl) ?_
  refine lv_iload_n hx hb dX10_rank_2 rfl (lv_at hl 1 rfl) ?_
  refine g_callVi (E' := mE a cI cZ σ) (k0 := 0) (As := [.int x1]) (rest := [.ref (a 0)]) F hI (c_X10_isRunner l D a cI cZ F.2.2 σ x1) kb_X10_isRunner ki_X10_isRunner ks_X10_isRunner km_X10_177 ⟨Nat.le_of_ble_eq_true rfl, Nat.le_of_ble_eq_true rfl, rfl, rfl⟩ (by decide) mE_0 rfl hl.1 rfl (Nat.le_of_ble_eq_true rfl) ⟨Nat.zero_le _, Nat.zero_le _⟩ dX10_rank_3 (fun H locs hI => ?_)
  refine g_callVi (E' := mE a cI cZ ((f_X10_asked σ (f_X10_isRunner σ x1)).2)) (k0 := 0) (As := [.int (f_X10_isRunner σ x1)]) (rest := []) F hI (c_X10_asked l D a cI cZ F.2.2 σ (f_X10_isRunner σ x1)) kb_X10_asked ki_X10_asked ks_X10_asked km_X10_103 ⟨Nat.le_of_ble_eq_true rfl, Nat.le_of_ble_eq_true rfl, rfl, rfl⟩ (by decide) mE_0 rfl hl.1 rfl (Nat.le_of_ble_eq_true rfl) ⟨Nat.zero_le _, Nat.zero_le _⟩ dX10_rank_6 (fun H locs hI => ?_)
  refine lv_if_ne (tgt := 14) hx hb dX10_rank_9 (by decide) (fun c_9 => ?_) (fun c_9 => ?_)
  · have h := (if_neg c_9).symm.trans h
    refine lv_aload_n hx hb dX10_rank_14 rfl (lv_at hl 0 rfl) ?_
    refine lv_iload_n hx hb dX10_rank_15 rfl (lv_at hl 1 rfl) ?_
    obtain ⟨q_16, e_16, h⟩ := gBind_in h
    refine g_callVi (E' := mE a cI cZ q_16.2) (k0 := 0) (As := [.int x1]) (rest := []) F hI (c_X10_totalOf l D a cI cZ F.2.2 N ((f_X10_asked σ (f_X10_isRunner σ x1)).2) x1 q_16 e_16) kb_X10_totalOf ki_X10_totalOf ks_X10_totalOf km_X10_195 ⟨Nat.le_of_ble_eq_true rfl, Nat.le_of_ble_eq_true rfl, rfl, rfl⟩ (by decide) mE_0 rfl hl.1 rfl (Nat.le_of_ble_eq_true rfl) ⟨Nat.zero_le _, Nat.zero_le _⟩ dX10_rank_16 (fun H locs hI => ?_)
    refine lv_istore_n (lv' := [(2, .int q_16.1), (0, .ref (a 0)), (1, .int x1)]) hx hb dX10_rank_19 rfl hl (by decide) rfl (fun ls hl => ?_)
    refine lv_iload_n hx hb dX10_rank_20 rfl (lv_at hl 0 rfl) ?_
    refine lv_iconst (v := -1) hx hb dX10_rank_21 (by decide) ?_
    obtain ⟨j30, hj30, h⟩ := gJoin1_in h
    have J30 : ∀ (w0_30 : Int32) (H : Heap) (locs : List Loc) (ls : Array Slot), j30 w0_30 = some out → g_S 21 D a (mE a cI cZ q_16.2) s.heap H locs → lv_has ls 6 [(0, .ref (a 0)), (1, .int x1), (2, .int q_16.1)] → W p l e rmX10_rank s m args below meth c H locs 0 0 Q (F0 m 30 ls [.int w0_30]) := by
      intro w0_30 H locs ls h hI hl
      rw [hj30] at h
      refine lv_istore_n (lv' := [(3, .int w0_30), (0, .ref (a 0)), (1, .int x1), (2, .int q_16.1)]) hx hb dX10_rank_30 rfl hl (by decide) rfl (fun ls hl => ?_)
      refine lv_iconst (v := 0) hx hb dX10_rank_31 (by decide) ?_
      refine lv_istore (lv' := [(4, .int 0), (3, .int w0_30), (0, .ref (a 0)), (1, .int x1), (2, .int q_16.1)]) hx hb dX10_rank_32 hl (by decide) rfl (fun ls hl => ?_)
      obtain ⟨lp34, hz34, hs34, h⟩ := gLoop3_in h
      have L34 : ∀ (n : Nat) (v3_34 : Int32) (v4_34 : Int32) (s_34 : gSt) (H : Heap) (locs : List Loc) (ls : Array Slot), lp34 n v3_34 v4_34 s_34 = some out → g_S 21 D a (mE a cI cZ s_34) s.heap H locs → lv_has ls 6 [(0, .ref (a 0)), (1, .int x1), (2, .int q_16.1), (3, .int v3_34), (4, .int v4_34)] → W p l e rmX10_rank s m args below meth c H locs 0 0 Q (F0 m 34 ls []) := by
        intro n
        induction n with
        | zero => intro v3_34 v4_34 s_34 H locs ls h; rw [hz34] at h; cases h
        | succ n ih34 =>
          intro v3_34 v4_34 s_34 H locs ls h hI hl
          rw [hs34] at h
          refine lv_iload hx hb dX10_rank_34 (lv_at hl 4 rfl) ?_
          refine lv_aload_n hx hb dX10_rank_36 rfl (lv_at hl 0 rfl) ?_
          refine g_get F hI (by decide) mE_0 rfl ku_X10 15 (by decide) kf_X10_88 rfl dX10_rank_37 ?_
          refine lv_icmp_ge (tgt := 102) hx hb dX10_rank_40 (by decide) (fun c_40 => ?_) (fun c_40 => ?_)
          · have h := (if_pos c_40).symm.trans h
            refine lv_iload_n hx hb dX10_rank_102 rfl (lv_at hl 3 rfl) ?_
            have h := Option.some.inj h
            subst h
            exact hq _ _ _ _ hI dX10_rank_103
          · have h := (if_neg c_40).symm.trans h
            refine lv_iload_n hx hb dX10_rank_43 rfl (lv_at hl 2 rfl) ?_
            refine lv_iconst (v := -1) hx hb dX10_rank_44 (by decide) ?_
            refine lv_icmp_eq (tgt := 102) hx hb dX10_rank_45 (by decide) (fun c_45 => ?_) (fun c_45 => ?_)
            · have h := (if_pos c_45).symm.trans h
              refine lv_iload_n hx hb dX10_rank_102 rfl (lv_at hl 3 rfl) ?_
              have h := Option.some.inj h
              subst h
              exact hq _ _ _ _ hI dX10_rank_103
            · have h := (if_neg c_45).symm.trans h
              refine lv_aload_n hx hb dX10_rank_48 rfl (lv_at hl 0 rfl) ?_
              refine g_get F hI (by decide) mE_0 rfl ku_X10 9 (by decide) kf_X10_29 rfl dX10_rank_49 ?_
              refine lv_iload hx hb dX10_rank_52 (lv_at hl 4 rfl) ?_
              obtain ⟨g_54, h⟩ := g_guard h
              refine g_iald F hI (by decide) mE_a6 0 rfl g_54 dX10_rank_54 ?_
              refine lv_aload_n hx hb dX10_rank_55 rfl (lv_at hl 0 rfl) ?_
              refine g_get F hI (by decide) mE_0 rfl ku_X10 9 (by decide) kf_X10_29 rfl dX10_rank_56 ?_
              refine lv_iload_n hx hb dX10_rank_59 rfl (lv_at hl 1 rfl) ?_
              obtain ⟨g_60, h⟩ := g_guard h
              refine g_iald F hI (by decide) mE_a6 0 rfl g_60 dX10_rank_60 ?_
              obtain ⟨j74, hj74, h⟩ := gJoin2_in h
              have J74 : ∀ (w0_74 : Int32) (s_74 : gSt) (H : Heap) (locs : List Loc) (ls : Array Slot), j74 w0_74 s_74 = some out → g_S 21 D a (mE a cI cZ s_74) s.heap H locs → lv_has ls 6 [(0, .ref (a 0)), (1, .int x1), (2, .int q_16.1), (3, .int v3_34), (4, .int v4_34)] → W p l e rmX10_rank s m args below meth c H locs 0 0 Q (F0 m 74 ls [.int w0_74]) := by
                intro w0_74 s_74 H locs ls h hI hl
                rw [hj74] at h
                refine lv_istore (lv' := [(5, .int w0_74), (0, .ref (a 0)), (1, .int x1), (2, .int q_16.1), (3, .int v3_34), (4, .int v4_34)]) hx hb dX10_rank_74 hl (by decide) rfl (fun ls hl => ?_)
                refine lv_iload_n hx hb dX10_rank_76 rfl (lv_at hl 4 rfl) ?_
                refine lv_iload hx hb dX10_rank_77 (lv_at hl 0 rfl) ?_
                refine lv_iconst (v := -1) hx hb dX10_rank_79 (by decide) ?_
                obtain ⟨j94, hj94, h⟩ := gJoin1_in h
                have J94 : ∀ (w0_94 : Int32) (H : Heap) (locs : List Loc) (ls : Array Slot), j94 w0_94 = some out → g_S 21 D a (mE a cI cZ s_74) s.heap H locs → lv_has ls 6 [(0, .ref (a 0)), (1, .int x1), (2, .int q_16.1), (4, .int v4_34)] → W p l e rmX10_rank s m args below meth c H locs 0 0 Q (F0 m 94 ls [.int w0_94, .int v3_34]) := by
                  intro w0_94 H locs ls h hI hl
                  rw [hj94] at h
                  refine lv_iadd hx hb dX10_rank_94 ?_
                  refine lv_istore_n (lv' := [(3, .int (v3_34 + w0_94)), (0, .ref (a 0)), (1, .int x1), (2, .int q_16.1), (4, .int v4_34)]) hx hb dX10_rank_95 rfl hl (by decide) rfl (fun ls hl => ?_)
                  refine lv_iinc (v := v4_34 + 1) (lv' := [(4, .int (v4_34 + 1)), (3, .int (v3_34 + w0_94)), (0, .ref (a 0)), (1, .int x1), (2, .int q_16.1)]) hx hb dX10_rank_96 hl (k := 4) rfl rfl (by decide) rfl (fun ls hl => ?_)
                  refine lv_goto (tgt := 34) hx hb dX10_rank_99 (by decide) ?_
                  exact ih34 _ _ _ _ _ _ h hI (lv_sub hl [2, 3, 4, 1, 0] rfl)
                obtain ⟨j93, hj93, h⟩ := gJoin0_in h
                have J93 : ∀ (H : Heap) (locs : List Loc) (ls : Array Slot), j93  = some out → g_S 21 D a (mE a cI cZ s_74) s.heap H locs → lv_has ls 6 [(0, .ref (a 0)), (1, .int x1), (2, .int q_16.1), (4, .int v4_34)] → W p l e rmX10_rank s m args below meth c H locs 0 0 Q (F0 m 93 ls [.int v3_34]) := by
                  intro  H locs ls h hI hl
                  rw [hj93] at h
                  refine lv_iconst (v := 0) hx hb dX10_rank_93 (by decide) ?_
                  exact J94 _ _ _ _ h hI (lv_sub hl [0, 1, 2, 3] rfl)
                refine lv_icmp_eq (tgt := 93) hx hb dX10_rank_80 (by decide) (fun c_80 => ?_) (fun c_80 => ?_)
                · have h := (if_pos c_80).symm.trans h
                  exact J93 _ _ _ h hI (lv_sub hl [1, 2, 3, 5] rfl)
                · have h := (if_neg c_80).symm.trans h
                  refine lv_iload hx hb dX10_rank_83 (lv_at hl 0 rfl) ?_
                  refine lv_iload_n hx hb dX10_rank_85 rfl (lv_at hl 3 rfl) ?_
                  refine lv_icmp_ge (tgt := 93) hx hb dX10_rank_86 (by decide) (fun c_86 => ?_) (fun c_86 => ?_)
                  · have h := (if_pos c_86).symm.trans h
                    exact J93 _ _ _ h hI (lv_sub hl [1, 2, 3, 5] rfl)
                  · have h := (if_neg c_86).symm.trans h
                    refine lv_iconst (v := 1) hx hb dX10_rank_89 (by decide) ?_
                    refine lv_goto (tgt := 94) hx hb dX10_rank_90 (by decide) ?_
                    exact J94 _ _ _ _ h hI (lv_sub hl [1, 2, 3, 5] rfl)
              refine lv_icmp_ne (tgt := 73) hx hb dX10_rank_61 (by decide) (fun c_61 => ?_) (fun c_61 => ?_)
              · have h := (if_neg c_61).symm.trans h
                refine lv_iconst (v := -1) hx hb dX10_rank_73 (by decide) ?_
                exact J74 _ _ _ _ _ h hI (lv_sub hl [0, 1, 2, 3, 4] rfl)
              · have h := (if_pos c_61).symm.trans h
                refine lv_aload_n hx hb dX10_rank_64 rfl (lv_at hl 0 rfl) ?_
                refine lv_iload hx hb dX10_rank_65 (lv_at hl 4 rfl) ?_
                obtain ⟨q_67, e_67, h⟩ := gBind_in h
                refine g_callVi (E' := mE a cI cZ q_67.2) (k0 := 0) (As := [.int v4_34]) (rest := []) F hI (c_X10_totalOf l D a cI cZ F.2.2 N s_34 v4_34 q_67 e_67) kb_X10_totalOf ki_X10_totalOf ks_X10_totalOf km_X10_195 ⟨Nat.le_of_ble_eq_true rfl, Nat.le_of_ble_eq_true rfl, rfl, rfl⟩ (by decide) mE_0 rfl hl.1 rfl (Nat.le_of_ble_eq_true rfl) ⟨Nat.zero_le _, Nat.zero_le _⟩ dX10_rank_67 (fun H locs hI => ?_)
                refine lv_goto (tgt := 74) hx hb dX10_rank_70 (by decide) ?_
                exact J74 _ _ _ _ _ h hI (lv_sub hl [0, 1, 2, 3, 4] rfl)
      exact L34 _ _ _ _ _ _ _ h hI (lv_sub hl [2, 3, 4, 1, 0] rfl)
    refine lv_icmp_ne (tgt := 29) hx hb dX10_rank_22 (by decide) (fun c_22 => ?_) (fun c_22 => ?_)
    · have h := (if_neg c_22).symm.trans h
      refine lv_iconst (v := 1) hx hb dX10_rank_29 (by decide) ?_
      exact J30 _ _ _ _ h hI (lv_sub hl [1, 2, 0] rfl)
    · have h := (if_pos c_22).symm.trans h
      refine lv_iconst (v := -1) hx hb dX10_rank_25 (by decide) ?_
      refine lv_goto (tgt := 30) hx hb dX10_rank_26 (by decide) ?_
      exact J30 _ _ _ _ h hI (lv_sub hl [1, 2, 0] rfl)
  · have h := (if_pos c_9).symm.trans h
    refine lv_iconst (v := 0) hx hb dX10_rank_12 (by decide) ?_
    have h := Option.some.inj h
    subst h
    exact hq _ _ _ _ hI dX10_rank_13
/-- SpurlineModel.bestSplit(II)I -/
def f_X10_bestSplit (N : Nat) (σ : gSt) (x1 x2 : Int32) : Option (Int32 × gSt) :=
  gLoop3 (fun self5 (v3_5 : Int32) (v4_5 : Int32) (s_5 : gSt) =>
    if s_5.2 3 ≤ v4_5 then
      if v3_5 = (-1) then
        some (0, s_5)
      else
        some (v3_5, s_5)
    else
      (f_X10_state N s_5 v4_5).bind (fun (q_17 : Int32 × gSt) =>
      gJoin1 (fun (w0_29 : Int32) =>
          gLoop2 (fun self34 (v3_34 : Int32) (v6_34 : Int32) =>
            if v4_5 < 0 ∨ 24 ≤ v4_5.toNatClampNeg then none else
            if g_ga q_17.2 6 v4_5 < 0 ∨ 5 ≤ (g_ga q_17.2 6 v4_5).toNatClampNeg then none else
            gJoin0 (
                self5 v3_34 (v4_5 + 1) q_17.2) (fun j141 =>
              if (g_ga q_17.2 5 (g_ga q_17.2 6 v4_5)) - 1 ≤ v6_34 then
                j141
              else
                if w0_29 = 0 then
                  j141
                else
                  if v4_5 < 0 ∨ 24 ≤ v4_5.toNatClampNeg then none else
                  if (6 * (g_ga q_17.2 6 v4_5)) + v6_34 < 0 ∨ 30 ≤ ((6 * (g_ga q_17.2 6 v4_5)) + v6_34).toNatClampNeg then none else
                  gJoin1 (fun (w0_109 : Int32) =>
                      gJoin1 (fun (w0_134 : Int32) =>
                          self34 w0_134 (v6_34 + 1)) (fun j134 =>
                      gJoin0 (
                          j134 v3_34) (fun j133 =>
                        if w0_109 = (-1) then
                          j133
                        else
                          gJoin0 (
                              j134 w0_109) (fun j128 =>
                            if v3_34 = (-1) then
                              j128
                            else
                              if v3_34 ≤ w0_109 then
                                j133
                              else
                                j128)))) (fun j109 =>
                  gJoin0 (
                      j109 (-1)) (fun j108 =>
                    if g_ga q_17.2 4 ((6 * (g_ga q_17.2 6 v4_5)) + v6_34) = x1 then
                      if ((6 * (g_ga q_17.2 6 v4_5)) + v6_34) + 1 < 0 ∨ 30 ≤ (((6 * (g_ga q_17.2 6 v4_5)) + v6_34) + 1).toNatClampNeg then none else
                      if g_ga q_17.2 4 (((6 * (g_ga q_17.2 6 v4_5)) + v6_34) + 1) = x2 then
                        (f_X10_splitOf N q_17.2 v4_5 v6_34).bind (fun (r_102 : Int32) =>
                        j109 r_102)
                      else
                        j108
                    else
                      j108)))) N v3_5 0) (fun j29 =>
        if q_17.1 = 1 then
          j29 1
        else
          j29 0))) N (-1) 0 σ
abbrev rmX10_bestSplit : Room := { frames := 2, cells := 0, slots := 0, locals := 49 }
theorem kb_X10_bestSplit : g_CB yX10_bestSplit cX10_bestSplit 9 (some .int) 2 := ⟨kc_X10_bestSplit, kn_X10, by decide +kernel⟩
set_option maxRecDepth 100000 in
set_option maxHeartbeats 4000000 in
theorem c_X10_bestSplit (l : Launch) (D : va_G) (a : Nat → Nat) (cI cZ : ClassId) (hj : g_Inj 21 a) (N : Nat) (σ : gSt) (x1 x2 : Int32) (out : Int32 × gSt) (hh : f_X10_bestSplit N σ x1 x2 = some out) : Met l yX10_bestSplit (Cond.code yX10_bestSplit cX10_bestSplit 9 (some .int) :: gW) rmX10_bestSplit (g_Pc 21 D a (mE a cI cZ σ) [(cI, .int), (cZ, .boolean)] [.ref (a 0), .int x1, .int x2]) (g_Qi 21 D a (mE a cI cZ out.2) out.1) 0 0 (g_Own 21 a) := by
  refine g_meti (by decide) hj (Nat.le_of_ble_eq_true rfl) ?_
  intro p e s m args below meth c Q ls F hl hI hq
  have hx := F.1.1
  have hb := F.1.2.1
  have hl : lv_has ls 9 [(0, .ref (a 0)), (1, .int x1), (2, .int x2)] := hl
  have h := hh
  unfold f_X10_bestSplit at h
  refine lv_iconst (v := -1) hx hb dX10_bestSplit_0 (by decide) ?_
  refine lv_istore_n (lv' := [(3, .int (-1)), (0, .ref (a 0)), (1, .int x1), (2, .int x2)]) hx hb dX10_bestSplit_1 rfl hl (by decide) rfl (fun ls hl => ?_)
  refine lv_iconst (v := 0) hx hb dX10_bestSplit_2 (by decide) ?_
  refine lv_istore (lv' := [(4, .int 0), (3, .int (-1)), (0, .ref (a 0)), (1, .int x1), (2, .int x2)]) hx hb dX10_bestSplit_3 hl (by decide) rfl (fun ls hl => ?_)
  obtain ⟨lp5, hz5, hs5, h⟩ := gLoop3_in h
  have L5 : ∀ (n : Nat) (v3_5 : Int32) (v4_5 : Int32) (s_5 : gSt) (H : Heap) (locs : List Loc) (ls : Array Slot), lp5 n v3_5 v4_5 s_5 = some out → g_S 21 D a (mE a cI cZ s_5) s.heap H locs → lv_has ls 9 [(0, .ref (a 0)), (1, .int x1), (2, .int x2), (3, .int v3_5), (4, .int v4_5)] → W p l e rmX10_bestSplit s m args below meth c H locs 0 0 Q (F0 m 5 ls []) := by
    intro n
    induction n with
    | zero => intro v3_5 v4_5 s_5 H locs ls h; rw [hz5] at h; cases h
    | succ n ih5 =>
      intro v3_5 v4_5 s_5 H locs ls h hI hl
      rw [hs5] at h
      refine lv_iload hx hb dX10_bestSplit_5 (lv_at hl 4 rfl) ?_
      refine lv_aload_n hx hb dX10_bestSplit_7 rfl (lv_at hl 0 rfl) ?_
      refine g_get F hI (by decide) mE_0 rfl ku_X10 15 (by decide) kf_X10_88 rfl dX10_bestSplit_8 ?_
      refine lv_icmp_ge (tgt := 147) hx hb dX10_bestSplit_11 (by decide) (fun c_11 => ?_) (fun c_11 => ?_)
      · have h := (if_pos c_11).symm.trans h
        refine lv_iload_n hx hb dX10_bestSplit_147 rfl (lv_at hl 3 rfl) ?_
        refine lv_iconst (v := -1) hx hb dX10_bestSplit_148 (by decide) ?_
        refine lv_icmp_ne (tgt := 156) hx hb dX10_bestSplit_149 (by decide) (fun c_149 => ?_) (fun c_149 => ?_)
        · have h := (if_neg c_149).symm.trans h
          refine lv_iload_n hx hb dX10_bestSplit_156 rfl (lv_at hl 3 rfl) ?_
          have h := Option.some.inj h
          subst h
          exact hq _ _ _ _ hI dX10_bestSplit_157
        · have h := (if_pos c_149).symm.trans h
          refine lv_iconst (v := 0) hx hb dX10_bestSplit_152 (by decide) ?_
          refine lv_goto (tgt := 157) hx hb dX10_bestSplit_153 (by decide) ?_
          have h := Option.some.inj h
          subst h
          exact hq _ _ _ _ hI dX10_bestSplit_157
      · have h := (if_neg c_11).symm.trans h
        refine lv_aload_n hx hb dX10_bestSplit_14 rfl (lv_at hl 0 rfl) ?_
        refine lv_iload hx hb dX10_bestSplit_15 (lv_at hl 4 rfl) ?_
        obtain ⟨q_17, e_17, h⟩ := gBind_in h
        refine g_callVi (E' := mE a cI cZ q_17.2) (k0 := 0) (As := [.int v4_5]) (rest := []) F hI (c_X10_state l D a cI cZ F.2.2 N s_5 v4_5 q_17 e_17) kb_X10_state ki_X10_state ks_X10_state km_X10_183 ⟨Nat.le_of_ble_eq_true rfl, Nat.le_of_ble_eq_true rfl, rfl, rfl⟩ (by decide) mE_0 rfl hl.1 rfl (Nat.le_of_ble_eq_true rfl) ⟨Nat.zero_le _, Nat.zero_le _⟩ dX10_bestSplit_17 (fun H locs hI => ?_)
        refine lv_iconst (v := 1) hx hb dX10_bestSplit_20 (by decide) ?_
        obtain ⟨j29, hj29, h⟩ := gJoin1_in h
        have J29 : ∀ (w0_29 : Int32) (H : Heap) (locs : List Loc) (ls : Array Slot), j29 w0_29 = some out → g_S 21 D a (mE a cI cZ q_17.2) s.heap H locs → lv_has ls 9 [(0, .ref (a 0)), (1, .int x1), (2, .int x2), (3, .int v3_5), (4, .int v4_5)] → W p l e rmX10_bestSplit s m args below meth c H locs 0 0 Q (F0 m 29 ls [.int w0_29]) := by
          intro w0_29 H locs ls h hI hl
          rw [hj29] at h
          refine lv_istore (lv' := [(5, .int w0_29), (0, .ref (a 0)), (1, .int x1), (2, .int x2), (3, .int v3_5), (4, .int v4_5)]) hx hb dX10_bestSplit_29 hl (by decide) rfl (fun ls hl => ?_)
          refine lv_iconst (v := 0) hx hb dX10_bestSplit_31 (by decide) ?_
          refine lv_istore (lv' := [(6, .int 0), (5, .int w0_29), (0, .ref (a 0)), (1, .int x1), (2, .int x2), (3, .int v3_5), (4, .int v4_5)]) hx hb dX10_bestSplit_32 hl (by decide) rfl (fun ls hl => ?_)
          obtain ⟨lp34, hz34, hs34, h⟩ := gLoop2_in h
          have L34 : ∀ (n : Nat) (v3_34 : Int32) (v6_34 : Int32) (H : Heap) (locs : List Loc) (ls : Array Slot), lp34 n v3_34 v6_34 = some out → g_S 21 D a (mE a cI cZ q_17.2) s.heap H locs → lv_has ls 9 [(0, .ref (a 0)), (1, .int x1), (2, .int x2), (3, .int v3_34), (4, .int v4_5), (5, .int w0_29), (6, .int v6_34)] → W p l e rmX10_bestSplit s m args below meth c H locs 0 0 Q (F0 m 34 ls []) := by
            intro n
            induction n with
            | zero => intro v3_34 v6_34 H locs ls h; rw [hz34] at h; cases h
            | succ n ih34 =>
              intro v3_34 v6_34 H locs ls h hI hl
              rw [hs34] at h
              refine lv_iload hx hb dX10_bestSplit_34 (lv_at hl 6 rfl) ?_
              refine lv_aload_n hx hb dX10_bestSplit_36 rfl (lv_at hl 0 rfl) ?_
              refine g_get F hI (by decide) mE_0 rfl ku_X10 8 (by decide) kf_X10_26 rfl dX10_bestSplit_37 ?_
              refine lv_aload_n hx hb dX10_bestSplit_40 rfl (lv_at hl 0 rfl) ?_
              refine g_get F hI (by decide) mE_0 rfl ku_X10 9 (by decide) kf_X10_29 rfl dX10_bestSplit_41 ?_
              refine lv_iload hx hb dX10_bestSplit_44 (lv_at hl 4 rfl) ?_
              obtain ⟨g_46, h⟩ := g_guard h
              refine g_iald F hI (by decide) mE_a6 0 rfl g_46 dX10_bestSplit_46 ?_
              obtain ⟨g_47, h⟩ := g_guard h
              refine g_iald F hI (by decide) mE_a5 0 rfl g_47 dX10_bestSplit_47 ?_
              refine lv_iconst (v := 1) hx hb dX10_bestSplit_48 (by decide) ?_
              refine lv_isub hx hb dX10_bestSplit_49 ?_
              obtain ⟨j141, hj141, h⟩ := gJoin0_in h
              have J141 : ∀ (H : Heap) (locs : List Loc) (ls : Array Slot), j141  = some out → g_S 21 D a (mE a cI cZ q_17.2) s.heap H locs → lv_has ls 9 [(0, .ref (a 0)), (1, .int x1), (2, .int x2), (3, .int v3_34), (4, .int v4_5)] → W p l e rmX10_bestSplit s m args below meth c H locs 0 0 Q (F0 m 141 ls []) := by
                intro  H locs ls h hI hl
                rw [hj141] at h
                refine lv_iinc (v := v4_5 + 1) (lv' := [(4, .int (v4_5 + 1)), (0, .ref (a 0)), (1, .int x1), (2, .int x2), (3, .int v3_34)]) hx hb dX10_bestSplit_141 hl (k := 4) rfl rfl (by decide) rfl (fun ls hl => ?_)
                refine lv_goto (tgt := 5) hx hb dX10_bestSplit_144 (by decide) ?_
                exact ih5 _ _ _ _ _ _ h hI (lv_sub hl [1, 2, 3, 4, 0] rfl)
              refine lv_icmp_ge (tgt := 141) hx hb dX10_bestSplit_50 (by decide) (fun c_50 => ?_) (fun c_50 => ?_)
              · have h := (if_pos c_50).symm.trans h
                exact J141 _ _ _ h hI (lv_sub hl [0, 1, 2, 3, 4] rfl)
              · have h := (if_neg c_50).symm.trans h
                refine lv_iload hx hb dX10_bestSplit_53 (lv_at hl 5 rfl) ?_
                refine lv_if_eq (tgt := 141) hx hb dX10_bestSplit_55 (by decide) (fun c_55 => ?_) (fun c_55 => ?_)
                · have h := (if_pos c_55).symm.trans h
                  exact J141 _ _ _ h hI (lv_sub hl [0, 1, 2, 3, 4] rfl)
                · have h := (if_neg c_55).symm.trans h
                  refine lv_bipush (v := 6) hx hb dX10_bestSplit_58 (by decide) ?_
                  refine lv_aload_n hx hb dX10_bestSplit_60 rfl (lv_at hl 0 rfl) ?_
                  refine g_get F hI (by decide) mE_0 rfl ku_X10 9 (by decide) kf_X10_29 rfl dX10_bestSplit_61 ?_
                  refine lv_iload hx hb dX10_bestSplit_64 (lv_at hl 4 rfl) ?_
                  obtain ⟨g_66, h⟩ := g_guard h
                  refine g_iald F hI (by decide) mE_a6 0 rfl g_66 dX10_bestSplit_66 ?_
                  refine lv_imul hx hb dX10_bestSplit_67 ?_
                  refine lv_iload hx hb dX10_bestSplit_68 (lv_at hl 6 rfl) ?_
                  refine lv_iadd hx hb dX10_bestSplit_70 ?_
                  refine lv_istore (lv' := [(7, .int ((6 * (g_ga q_17.2 6 v4_5)) + v6_34)), (0, .ref (a 0)), (1, .int x1), (2, .int x2), (3, .int v3_34), (4, .int v4_5), (5, .int w0_29), (6, .int v6_34)]) hx hb dX10_bestSplit_71 hl (by decide) rfl (fun ls hl => ?_)
                  refine lv_aload_n hx hb dX10_bestSplit_73 rfl (lv_at hl 1 rfl) ?_
                  refine g_get F hI (by decide) mE_0 rfl ku_X10 7 (by decide) kf_X10_23 rfl dX10_bestSplit_74 ?_
                  refine lv_iload hx hb dX10_bestSplit_77 (lv_at hl 0 rfl) ?_
                  obtain ⟨g_79, h⟩ := g_guard h
                  refine g_iald F hI (by decide) mE_a4 0 rfl g_79 dX10_bestSplit_79 ?_
                  refine lv_iload_n hx hb dX10_bestSplit_80 rfl (lv_at hl 2 rfl) ?_
                  obtain ⟨j109, hj109, h⟩ := gJoin1_in h
                  have J109 : ∀ (w0_109 : Int32) (H : Heap) (locs : List Loc) (ls : Array Slot), j109 w0_109 = some out → g_S 21 D a (mE a cI cZ q_17.2) s.heap H locs → lv_has ls 9 [(0, .ref (a 0)), (1, .int x1), (2, .int x2), (3, .int v3_34), (4, .int v4_5), (5, .int w0_29), (6, .int v6_34)] → W p l e rmX10_bestSplit s m args below meth c H locs 0 0 Q (F0 m 109 ls [.int w0_109]) := by
                    intro w0_109 H locs ls h hI hl
                    rw [hj109] at h
                    refine lv_istore (lv' := [(8, .int w0_109), (0, .ref (a 0)), (1, .int x1), (2, .int x2), (3, .int v3_34), (4, .int v4_5), (5, .int w0_29), (6, .int v6_34)]) hx hb dX10_bestSplit_109 hl (by decide) rfl (fun ls hl => ?_)
                    refine lv_iload hx hb dX10_bestSplit_111 (lv_at hl 0 rfl) ?_
                    refine lv_iconst (v := -1) hx hb dX10_bestSplit_113 (by decide) ?_
                    obtain ⟨j134, hj134, h⟩ := gJoin1_in h
                    have J134 : ∀ (w0_134 : Int32) (H : Heap) (locs : List Loc) (ls : Array Slot), j134 w0_134 = some out → g_S 21 D a (mE a cI cZ q_17.2) s.heap H locs → lv_has ls 9 [(0, .ref (a 0)), (1, .int x1), (2, .int x2), (4, .int v4_5), (5, .int w0_29), (6, .int v6_34)] → W p l e rmX10_bestSplit s m args below meth c H locs 0 0 Q (F0 m 134 ls [.int w0_134]) := by
                      intro w0_134 H locs ls h hI hl
                      rw [hj134] at h
                      refine lv_istore_n (lv' := [(3, .int w0_134), (0, .ref (a 0)), (1, .int x1), (2, .int x2), (4, .int v4_5), (5, .int w0_29), (6, .int v6_34)]) hx hb dX10_bestSplit_134 rfl hl (by decide) rfl (fun ls hl => ?_)
                      refine lv_iinc (v := v6_34 + 1) (lv' := [(6, .int (v6_34 + 1)), (3, .int w0_134), (0, .ref (a 0)), (1, .int x1), (2, .int x2), (4, .int v4_5), (5, .int w0_29)]) hx hb dX10_bestSplit_135 hl (k := 6) rfl rfl (by decide) rfl (fun ls hl => ?_)
                      refine lv_goto (tgt := 34) hx hb dX10_bestSplit_138 (by decide) ?_
                      exact ih34 _ _ _ _ _ h hI (lv_sub hl [2, 3, 4, 1, 5, 6, 0] rfl)
                    obtain ⟨j133, hj133, h⟩ := gJoin0_in h
                    have J133 : ∀ (H : Heap) (locs : List Loc) (ls : Array Slot), j133  = some out → g_S 21 D a (mE a cI cZ q_17.2) s.heap H locs → lv_has ls 9 [(0, .ref (a 0)), (1, .int x1), (2, .int x2), (3, .int v3_34), (4, .int v4_5), (5, .int w0_29), (6, .int v6_34)] → W p l e rmX10_bestSplit s m args below meth c H locs 0 0 Q (F0 m 133 ls []) := by
                      intro  H locs ls h hI hl
                      rw [hj133] at h
                      refine lv_iload_n hx hb dX10_bestSplit_133 rfl (lv_at hl 3 rfl) ?_
                      exact J134 _ _ _ _ h hI (lv_sub hl [0, 1, 2, 4, 5, 6] rfl)
                    refine lv_icmp_eq (tgt := 133) hx hb dX10_bestSplit_114 (by decide) (fun c_114 => ?_) (fun c_114 => ?_)
                    · have h := (if_pos c_114).symm.trans h
                      exact J133 _ _ _ h hI (lv_sub hl [1, 2, 3, 4, 5, 6, 7] rfl)
                    · have h := (if_neg c_114).symm.trans h
                      refine lv_iload_n hx hb dX10_bestSplit_117 rfl (lv_at hl 4 rfl) ?_
                      refine lv_iconst (v := -1) hx hb dX10_bestSplit_118 (by decide) ?_
                      obtain ⟨j128, hj128, h⟩ := gJoin0_in h
                      have J128 : ∀ (H : Heap) (locs : List Loc) (ls : Array Slot), j128  = some out → g_S 21 D a (mE a cI cZ q_17.2) s.heap H locs → lv_has ls 9 [(0, .ref (a 0)), (1, .int x1), (2, .int x2), (4, .int v4_5), (5, .int w0_29), (6, .int v6_34), (8, .int w0_109)] → W p l e rmX10_bestSplit s m args below meth c H locs 0 0 Q (F0 m 128 ls []) := by
                        intro  H locs ls h hI hl
                        rw [hj128] at h
                        refine lv_iload hx hb dX10_bestSplit_128 (lv_at hl 6 rfl) ?_
                        refine lv_goto (tgt := 134) hx hb dX10_bestSplit_130 (by decide) ?_
                        exact J134 _ _ _ _ h hI (lv_sub hl [0, 1, 2, 3, 4, 5] rfl)
                      refine lv_icmp_eq (tgt := 128) hx hb dX10_bestSplit_119 (by decide) (fun c_119 => ?_) (fun c_119 => ?_)
                      · have h := (if_pos c_119).symm.trans h
                        exact J128 _ _ _ h hI (lv_sub hl [1, 2, 3, 5, 6, 7, 0] rfl)
                      · have h := (if_neg c_119).symm.trans h
                        refine lv_iload hx hb dX10_bestSplit_122 (lv_at hl 0 rfl) ?_
                        refine lv_iload_n hx hb dX10_bestSplit_124 rfl (lv_at hl 4 rfl) ?_
                        refine lv_icmp_ge (tgt := 133) hx hb dX10_bestSplit_125 (by decide) (fun c_125 => ?_) (fun c_125 => ?_)
                        · have h := (if_pos c_125).symm.trans h
                          exact J133 _ _ _ h hI (lv_sub hl [1, 2, 3, 4, 5, 6, 7] rfl)
                        · have h := (if_neg c_125).symm.trans h
                          exact J128 _ _ _ h hI (lv_sub hl [1, 2, 3, 5, 6, 7, 0] rfl)
                  obtain ⟨j108, hj108, h⟩ := gJoin0_in h
                  have J108 : ∀ (H : Heap) (locs : List Loc) (ls : Array Slot), j108  = some out → g_S 21 D a (mE a cI cZ q_17.2) s.heap H locs → lv_has ls 9 [(0, .ref (a 0)), (1, .int x1), (2, .int x2), (3, .int v3_34), (4, .int v4_5), (5, .int w0_29), (6, .int v6_34)] → W p l e rmX10_bestSplit s m args below meth c H locs 0 0 Q (F0 m 108 ls []) := by
                    intro  H locs ls h hI hl
                    rw [hj108] at h
                    refine lv_iconst (v := -1) hx hb dX10_bestSplit_108 (by decide) ?_
                    exact J109 _ _ _ _ h hI (lv_sub hl [0, 1, 2, 3, 4, 5, 6] rfl)
                  refine lv_icmp_ne (tgt := 108) hx hb dX10_bestSplit_81 (by decide) (fun c_81 => ?_) (fun c_81 => ?_)
                  · have h := (if_neg c_81).symm.trans h
                    exact J108 _ _ _ h hI (lv_sub hl [1, 2, 3, 4, 5, 6, 7] rfl)
                  · have h := (if_pos c_81).symm.trans h
                    refine lv_aload_n hx hb dX10_bestSplit_84 rfl (lv_at hl 1 rfl) ?_
                    refine g_get F hI (by decide) mE_0 rfl ku_X10 7 (by decide) kf_X10_23 rfl dX10_bestSplit_85 ?_
                    refine lv_iload hx hb dX10_bestSplit_88 (lv_at hl 0 rfl) ?_
                    refine lv_iconst (v := 1) hx hb dX10_bestSplit_90 (by decide) ?_
                    refine lv_iadd hx hb dX10_bestSplit_91 ?_
                    obtain ⟨g_92, h⟩ := g_guard h
                    refine g_iald F hI (by decide) mE_a4 0 rfl g_92 dX10_bestSplit_92 ?_
                    refine lv_iload_n hx hb dX10_bestSplit_93 rfl (lv_at hl 3 rfl) ?_
                    refine lv_icmp_ne (tgt := 108) hx hb dX10_bestSplit_94 (by decide) (fun c_94 => ?_) (fun c_94 => ?_)
                    · have h := (if_neg c_94).symm.trans h
                      exact J108 _ _ _ h hI (lv_sub hl [1, 2, 3, 4, 5, 6, 7] rfl)
                    · have h := (if_pos c_94).symm.trans h
                      refine lv_aload_n hx hb dX10_bestSplit_97 rfl (lv_at hl 1 rfl) ?_
                      refine lv_iload hx hb dX10_bestSplit_98 (lv_at hl 5 rfl) ?_
                      refine lv_iload hx hb dX10_bestSplit_100 (lv_at hl 7 rfl) ?_
                      obtain ⟨r_102, e_102, h⟩ := gBind_in h
                      refine g_callVi (E' := mE a cI cZ q_17.2) (k0 := 0) (As := [.int v4_5, .int v6_34]) (rest := []) F hI (c_X10_splitOf l D a cI cZ F.2.2 N q_17.2 v4_5 v6_34 r_102 e_102) kb_X10_splitOf ki_X10_splitOf ks_X10_splitOf km_X10_192 ⟨Nat.le_of_ble_eq_true rfl, Nat.le_of_ble_eq_true rfl, rfl, rfl⟩ (by decide) mE_0 rfl hl.1 rfl (Nat.le_of_ble_eq_true rfl) ⟨Nat.zero_le _, Nat.zero_le _⟩ dX10_bestSplit_102 (fun H locs hI => ?_)
                      refine lv_goto (tgt := 109) hx hb dX10_bestSplit_105 (by decide) ?_
                      exact J109 _ _ _ _ h hI (lv_sub hl [1, 2, 3, 4, 5, 6, 7] rfl)
          exact L34 _ _ _ _ _ _ h hI (lv_sub hl [2, 3, 4, 5, 6, 1, 0] rfl)
        refine lv_icmp_ne (tgt := 28) hx hb dX10_bestSplit_21 (by decide) (fun c_21 => ?_) (fun c_21 => ?_)
        · have h := (if_neg c_21).symm.trans h
          refine lv_iconst (v := 0) hx hb dX10_bestSplit_28 (by decide) ?_
          exact J29 _ _ _ _ h hI (lv_sub hl [0, 1, 2, 3, 4] rfl)
        · have h := (if_pos c_21).symm.trans h
          refine lv_iconst (v := 1) hx hb dX10_bestSplit_24 (by decide) ?_
          refine lv_goto (tgt := 29) hx hb dX10_bestSplit_25 (by decide) ?_
          exact J29 _ _ _ _ h hI (lv_sub hl [0, 1, 2, 3, 4] rfl)
  exact L5 _ _ _ _ _ _ _ h hI (lv_sub hl [2, 3, 4, 1, 0] rfl)
/-- SpurlineModel.lost(II)I -/
def f_X10_lost (N : Nat) (σ : gSt) (x1 x2 : Int32) : Option (Int32 × gSt) :=
  (f_X10_isLeg N σ x1 x2).bind (fun (r_4 : Int32) =>
  if (f_X10_asked σ r_4).1 = 0 then
    some (0, (f_X10_asked σ r_4).2)
  else
    (f_X10_totalOf N ((f_X10_asked σ r_4).2) x1).bind (fun (q_17 : Int32 × gSt) =>
    if q_17.1 = (-1) then
      some ((-1), q_17.2)
    else
      (f_X10_isVoid N q_17.2 x1 x2).bind (fun (r_29 : Int32) =>
      if r_29 = 0 then
        if x1 < 0 ∨ 24 ≤ x1.toNatClampNeg then none else
        gLoop4 (fun self57 (v5_57 : Int32) (v6_57 : Int32) (v7_57 : Int32) (s_57 : gSt) =>
          if x1 < 0 ∨ 24 ≤ x1.toNatClampNeg then none else
          if g_ga s_57 6 x1 < 0 ∨ 5 ≤ (g_ga s_57 6 x1).toNatClampNeg then none else
          if (g_ga s_57 5 (g_ga s_57 6 x1)) - 1 ≤ v7_57 then
            gJoin1 (fun (w0_166 : Int64) =>
                (f_X10_goesThrough N s_57 x1).bind (fun (q_170 : Int32 × gSt) =>
                (f_X10_splitOf N q_170.2 x1 x2).bind (fun (r_177 : Int32) =>
                if r_177 - (((v6_57.toInt64 * w0_166) / 1000).toInt32) ≤ 0 then
                  some (0, q_170.2)
                else
                  some (r_177 - (((v6_57.toInt64 * w0_166) / 1000).toInt32), q_170.2)))) (fun j166 =>
              if v5_57 = 0 then
                j166 1000
              else
                if v5_57.toInt64 = 0 then none else
                j166 ((1000 * q_17.1.toInt64) / v5_57.toInt64))
          else
            (f_X10_isVoid N s_57 x1 v7_57).bind (fun (r_79 : Int32) =>
            gJoin2 (fun (w0_115 : Int32) (s_115 : gSt) =>
                gJoin1 (fun (w0_137 : Int32) =>
                    self57 (v5_57 + w0_115) w0_137 (v7_57 + 1) s_115) (fun j137 =>
                  if v7_57 = x2 then
                    j137 w0_115
                  else
                    j137 v6_57)) (fun j115 =>
              if r_79 = 0 then
                if (6 * (g_ga q_17.2 6 x1)) + v7_57 < 0 ∨ 30 ≤ ((6 * (g_ga q_17.2 6 x1)) + v7_57).toNatClampNeg then none else
                if ((6 * (g_ga q_17.2 6 x1)) + v7_57) + 1 < 0 ∨ 30 ≤ (((6 * (g_ga q_17.2 6 x1)) + v7_57) + 1).toNatClampNeg then none else
                (f_X10_bestSplit N s_57 (g_ga s_57 4 ((6 * (g_ga q_17.2 6 x1)) + v7_57)) (g_ga s_57 4 (((6 * (g_ga q_17.2 6 x1)) + v7_57) + 1))).bind (fun (q_112 : Int32 × gSt) =>
                j115 q_112.1 q_112.2)
              else
                j115 0 s_57))) N 0 0 0 q_17.2
      else
        some ((-1), q_17.2))))
abbrev rmX10_lost : Room := { frames := 3, cells := 0, slots := 0, locals := 77 }
theorem kb_X10_lost : g_CB yX10_lost cX10_lost 10 (some .int) 2 := ⟨kc_X10_lost, kn_X10, by decide +kernel⟩
set_option maxRecDepth 100000 in
set_option maxHeartbeats 4000000 in
theorem c_X10_lost (l : Launch) (D : va_G) (a : Nat → Nat) (cI cZ : ClassId) (hj : g_Inj 21 a) (N : Nat) (σ : gSt) (x1 x2 : Int32) (out : Int32 × gSt) (hh : f_X10_lost N σ x1 x2 = some out) : Met l yX10_lost (Cond.code yX10_lost cX10_lost 10 (some .int) :: gW) rmX10_lost (g_Pc 21 D a (mE a cI cZ σ) [(cI, .int), (cZ, .boolean)] [.ref (a 0), .int x1, .int x2]) (g_Qi 21 D a (mE a cI cZ out.2) out.1) 0 0 (g_Own 21 a) := by
  refine g_meti (by decide) hj (Nat.le_of_ble_eq_true rfl) ?_
  intro p e s m args below meth c Q ls F hl hI hq
  have hx := F.1.1
  have hb := F.1.2.1
  have hl : lv_has ls 10 [(0, .ref (a 0)), (1, .int x1), (2, .int x2)] := hl
  have h := hh
  unfold f_X10_lost at h
  refine lv_aload_n hx hb dX10_lost_0 rfl (lv_at hl 0 rfl) ?_
  refine lv_aload_n hx hb dX10_lost_1 rfl (lv_at hl 0 rfl) ?_
  refine lv_iload_n hx hb dX10_lost_2 rfl (lv_at hl 1 rfl) ?_
  refine lv_iload_n hx hb dX10_lost_3 rfl (lv_at hl 2 rfl) ?_
  obtain ⟨r_4, e_4, h⟩ := gBind_in h
  refine g_callVi (E' := mE a cI cZ σ) (k0 := 0) (As := [.int x1, .int x2]) (rest := [.ref (a 0)]) F hI (c_X10_isLeg l D a cI cZ F.2.2 N σ x1 x2 r_4 e_4) kb_X10_isLeg ki_X10_isLeg ks_X10_isLeg km_X10_189 ⟨Nat.le_of_ble_eq_true rfl, Nat.le_of_ble_eq_true rfl, rfl, rfl⟩ (by decide) mE_0 rfl hl.1 rfl (Nat.le_of_ble_eq_true rfl) ⟨Nat.zero_le _, Nat.zero_le _⟩ dX10_lost_4 (fun H locs hI => ?_)
  refine g_callVi (E' := mE a cI cZ ((f_X10_asked σ r_4).2)) (k0 := 0) (As := [.int r_4]) (rest := []) F hI (c_X10_asked l D a cI cZ F.2.2 σ r_4) kb_X10_asked ki_X10_asked ks_X10_asked km_X10_103 ⟨Nat.le_of_ble_eq_true rfl, Nat.le_of_ble_eq_true rfl, rfl, rfl⟩ (by decide) mE_0 rfl hl.1 rfl (Nat.le_of_ble_eq_true rfl) ⟨Nat.zero_le _, Nat.zero_le _⟩ dX10_lost_7 (fun H locs hI => ?_)
  refine lv_if_ne (tgt := 15) hx hb dX10_lost_10 (by decide) (fun c_10 => ?_) (fun c_10 => ?_)
  · have h := (if_neg c_10).symm.trans h
    refine lv_aload_n hx hb dX10_lost_15 rfl (lv_at hl 0 rfl) ?_
    refine lv_iload_n hx hb dX10_lost_16 rfl (lv_at hl 1 rfl) ?_
    obtain ⟨q_17, e_17, h⟩ := gBind_in h
    refine g_callVi (E' := mE a cI cZ q_17.2) (k0 := 0) (As := [.int x1]) (rest := []) F hI (c_X10_totalOf l D a cI cZ F.2.2 N ((f_X10_asked σ r_4).2) x1 q_17 e_17) kb_X10_totalOf ki_X10_totalOf ks_X10_totalOf km_X10_195 ⟨Nat.le_of_ble_eq_true rfl, Nat.le_of_ble_eq_true rfl, rfl, rfl⟩ (by decide) mE_0 rfl hl.1 rfl (Nat.le_of_ble_eq_true rfl) ⟨Nat.zero_le _, Nat.zero_le _⟩ dX10_lost_17 (fun H locs hI => ?_)
    refine lv_istore_n (lv' := [(3, .int q_17.1), (0, .ref (a 0)), (1, .int x1), (2, .int x2)]) hx hb dX10_lost_20 rfl hl (by decide) rfl (fun ls hl => ?_)
    refine lv_iload_n hx hb dX10_lost_21 rfl (lv_at hl 0 rfl) ?_
    refine lv_iconst (v := -1) hx hb dX10_lost_22 (by decide) ?_
    refine lv_icmp_eq (tgt := 35) hx hb dX10_lost_23 (by decide) (fun c_23 => ?_) (fun c_23 => ?_)
    · have h := (if_pos c_23).symm.trans h
      refine lv_iconst (v := -1) hx hb dX10_lost_35 (by decide) ?_
      have h := Option.some.inj h
      subst h
      exact hq _ _ _ _ hI dX10_lost_36
    · have h := (if_neg c_23).symm.trans h
      refine lv_aload_n hx hb dX10_lost_26 rfl (lv_at hl 1 rfl) ?_
      refine lv_iload_n hx hb dX10_lost_27 rfl (lv_at hl 2 rfl) ?_
      refine lv_iload_n hx hb dX10_lost_28 rfl (lv_at hl 3 rfl) ?_
      obtain ⟨r_29, e_29, h⟩ := gBind_in h
      refine g_callVi (E' := mE a cI cZ q_17.2) (k0 := 0) (As := [.int x1, .int x2]) (rest := []) F hI (c_X10_isVoid l D a cI cZ F.2.2 N q_17.2 x1 x2 r_29 e_29) kb_X10_isVoid ki_X10_isVoid ks_X10_isVoid km_X10_186 ⟨Nat.le_of_ble_eq_true rfl, Nat.le_of_ble_eq_true rfl, rfl, rfl⟩ (by decide) mE_0 rfl hl.1 rfl (Nat.le_of_ble_eq_true rfl) ⟨Nat.zero_le _, Nat.zero_le _⟩ dX10_lost_29 (fun H locs hI => ?_)
      refine lv_if_eq (tgt := 37) hx hb dX10_lost_32 (by decide) (fun c_32 => ?_) (fun c_32 => ?_)
      · have h := (if_pos c_32).symm.trans h
        refine lv_bipush (v := 6) hx hb dX10_lost_37 (by decide) ?_
        refine lv_aload_n hx hb dX10_lost_39 rfl (lv_at hl 1 rfl) ?_
        refine g_get F hI (by decide) mE_0 rfl ku_X10 9 (by decide) kf_X10_29 rfl dX10_lost_40 ?_
        refine lv_iload_n hx hb dX10_lost_43 rfl (lv_at hl 2 rfl) ?_
        obtain ⟨g_44, h⟩ := g_guard h
        refine g_iald F hI (by decide) mE_a6 0 rfl g_44 dX10_lost_44 ?_
        refine lv_imul hx hb dX10_lost_45 ?_
        refine lv_istore (lv' := [(4, .int (6 * (g_ga q_17.2 6 x1))), (3, .int q_17.1), (0, .ref (a 0)), (1, .int x1), (2, .int x2)]) hx hb dX10_lost_46 hl (by decide) rfl (fun ls hl => ?_)
        refine lv_iconst (v := 0) hx hb dX10_lost_48 (by decide) ?_
        refine lv_istore (lv' := [(5, .int 0), (4, .int (6 * (g_ga q_17.2 6 x1))), (3, .int q_17.1), (0, .ref (a 0)), (1, .int x1), (2, .int x2)]) hx hb dX10_lost_49 hl (by decide) rfl (fun ls hl => ?_)
        refine lv_iconst (v := 0) hx hb dX10_lost_51 (by decide) ?_
        refine lv_istore (lv' := [(6, .int 0), (5, .int 0), (4, .int (6 * (g_ga q_17.2 6 x1))), (3, .int q_17.1), (0, .ref (a 0)), (1, .int x1), (2, .int x2)]) hx hb dX10_lost_52 hl (by decide) rfl (fun ls hl => ?_)
        refine lv_iconst (v := 0) hx hb dX10_lost_54 (by decide) ?_
        refine lv_istore (lv' := [(7, .int 0), (6, .int 0), (5, .int 0), (4, .int (6 * (g_ga q_17.2 6 x1))), (3, .int q_17.1), (0, .ref (a 0)), (1, .int x1), (2, .int x2)]) hx hb dX10_lost_55 hl (by decide) rfl (fun ls hl => ?_)
        obtain ⟨lp57, hz57, hs57, h⟩ := gLoop4_in h
        have L57 : ∀ (n : Nat) (v5_57 : Int32) (v6_57 : Int32) (v7_57 : Int32) (s_57 : gSt) (H : Heap) (locs : List Loc) (ls : Array Slot), lp57 n v5_57 v6_57 v7_57 s_57 = some out → g_S 21 D a (mE a cI cZ s_57) s.heap H locs → lv_has ls 10 [(0, .ref (a 0)), (1, .int x1), (2, .int x2), (3, .int q_17.1), (4, .int (6 * (g_ga q_17.2 6 x1))), (5, .int v5_57), (6, .int v6_57), (7, .int v7_57)] → W p l e rmX10_lost s m args below meth c H locs 0 0 Q (F0 m 57 ls []) := by
          intro n
          induction n with
          | zero => intro v5_57 v6_57 v7_57 s_57 H locs ls h; rw [hz57] at h; cases h
          | succ n ih57 =>
            intro v5_57 v6_57 v7_57 s_57 H locs ls h hI hl
            rw [hs57] at h
            refine lv_iload hx hb dX10_lost_57 (lv_at hl 7 rfl) ?_
            refine lv_aload_n hx hb dX10_lost_59 rfl (lv_at hl 0 rfl) ?_
            refine g_get F hI (by decide) mE_0 rfl ku_X10 8 (by decide) kf_X10_26 rfl dX10_lost_60 ?_
            refine lv_aload_n hx hb dX10_lost_63 rfl (lv_at hl 0 rfl) ?_
            refine g_get F hI (by decide) mE_0 rfl ku_X10 9 (by decide) kf_X10_29 rfl dX10_lost_64 ?_
            refine lv_iload_n hx hb dX10_lost_67 rfl (lv_at hl 1 rfl) ?_
            obtain ⟨g_68, h⟩ := g_guard h
            refine g_iald F hI (by decide) mE_a6 0 rfl g_68 dX10_lost_68 ?_
            obtain ⟨g_69, h⟩ := g_guard h
            refine g_iald F hI (by decide) mE_a5 0 rfl g_69 dX10_lost_69 ?_
            refine lv_iconst (v := 1) hx hb dX10_lost_70 (by decide) ?_
            refine lv_isub hx hb dX10_lost_71 ?_
            refine lv_icmp_ge (tgt := 145) hx hb dX10_lost_72 (by decide) (fun c_72 => ?_) (fun c_72 => ?_)
            · have h := (if_pos c_72).symm.trans h
              refine lv_iload hx hb dX10_lost_145 (lv_at hl 5 rfl) ?_
              obtain ⟨j166, hj166, h⟩ := gJoin1_in h
              have J166 : ∀ (w0_166 : Int64) (H : Heap) (locs : List Loc) (ls : Array Slot), j166 w0_166 = some out → g_S 21 D a (mE a cI cZ s_57) s.heap H locs → lv_has ls 10 [(0, .ref (a 0)), (1, .int x1), (2, .int x2), (6, .int v6_57)] → W p l e rmX10_lost s m args below meth c H locs 0 0 Q (F0 m 166 ls [.long w0_166]) := by
                intro w0_166 H locs ls h hI hl
                rw [hj166] at h
                refine lv_lstore (lv' := [(7, .long w0_166), (0, .ref (a 0)), (1, .int x1), (2, .int x2), (6, .int v6_57)]) hx hb dX10_lost_166 hl (by decide) rfl (fun ls hl => ?_)
                refine lv_aload_n hx hb dX10_lost_168 rfl (lv_at hl 1 rfl) ?_
                refine lv_iload_n hx hb dX10_lost_169 rfl (lv_at hl 2 rfl) ?_
                obtain ⟨q_170, e_170, h⟩ := gBind_in h
                refine g_callVi (E' := mE a cI cZ q_170.2) (k0 := 0) (As := [.int x1]) (rest := []) F hI (c_X10_goesThrough l D a cI cZ F.2.2 N s_57 x1 q_170 e_170) kb_X10_goesThrough ki_X10_goesThrough ks_X10_goesThrough km_X10_180 ⟨Nat.le_of_ble_eq_true rfl, Nat.le_of_ble_eq_true rfl, rfl, rfl⟩ (by decide) mE_0 rfl hl.1 rfl (Nat.le_of_ble_eq_true rfl) ⟨Nat.zero_le _, Nat.zero_le _⟩ dX10_lost_170 (fun H locs hI => ?_)
                refine lv_pop hx hb dX10_lost_173 rfl ?_
                refine lv_aload_n hx hb dX10_lost_174 rfl (lv_at hl 1 rfl) ?_
                refine lv_iload_n hx hb dX10_lost_175 rfl (lv_at hl 2 rfl) ?_
                refine lv_iload_n hx hb dX10_lost_176 rfl (lv_at hl 3 rfl) ?_
                obtain ⟨r_177, e_177, h⟩ := gBind_in h
                refine g_callVi (E' := mE a cI cZ q_170.2) (k0 := 0) (As := [.int x1, .int x2]) (rest := []) F hI (c_X10_splitOf l D a cI cZ F.2.2 N q_170.2 x1 x2 r_177 e_177) kb_X10_splitOf ki_X10_splitOf ks_X10_splitOf km_X10_192 ⟨Nat.le_of_ble_eq_true rfl, Nat.le_of_ble_eq_true rfl, rfl, rfl⟩ (by decide) mE_0 rfl hl.1 rfl (Nat.le_of_ble_eq_true rfl) ⟨Nat.zero_le _, Nat.zero_le _⟩ dX10_lost_177 (fun H locs hI => ?_)
                refine lv_iload hx hb dX10_lost_180 (lv_at hl 4 rfl) ?_
                refine lv_i2l hx hb dX10_lost_182 rfl ?_
                refine lv_lload hx hb dX10_lost_183 (lv_at hl 0 rfl) ?_
                refine lv_lmul hx hb dX10_lost_185 ?_
                refine lv_ldc2 (v := 1000) hx hb F.1.2.2.2.1 (F.1.2.2.2.2 _ kk_X10_201) dX10_lost_186 ?_
                refine lv_ldiv hx hb dX10_lost_189 (by decide) ?_
                refine lv_l2i hx hb dX10_lost_190 rfl ?_
                refine lv_isub hx hb dX10_lost_191 ?_
                refine lv_istore (lv' := [(9, .int (r_177 - (((v6_57.toInt64 * w0_166) / 1000).toInt32))), (7, .long w0_166), (0, .ref (a 0)), (1, .int x1), (2, .int x2), (6, .int v6_57)]) hx hb dX10_lost_192 hl (by decide) rfl (fun ls hl => ?_)
                refine lv_iload hx hb dX10_lost_194 (lv_at hl 0 rfl) ?_
                refine lv_if_le (tgt := 204) hx hb dX10_lost_196 (by decide) (fun c_196 => ?_) (fun c_196 => ?_)
                · have h := (if_pos c_196).symm.trans h
                  refine lv_iconst (v := 0) hx hb dX10_lost_204 (by decide) ?_
                  have h := Option.some.inj h
                  subst h
                  exact hq _ _ _ _ hI dX10_lost_205
                · have h := (if_neg c_196).symm.trans h
                  refine lv_iload hx hb dX10_lost_199 (lv_at hl 0 rfl) ?_
                  refine lv_goto (tgt := 205) hx hb dX10_lost_201 (by decide) ?_
                  have h := Option.some.inj h
                  subst h
                  exact hq _ _ _ _ hI dX10_lost_205
              refine lv_if_ne (tgt := 156) hx hb dX10_lost_147 (by decide) (fun c_147 => ?_) (fun c_147 => ?_)
              · have h := (if_neg c_147).symm.trans h
                refine lv_ldc2 (v := 1000) hx hb F.1.2.2.2.1 (F.1.2.2.2.2 _ kk_X10_201) dX10_lost_156 ?_
                refine lv_iload_n hx hb dX10_lost_159 rfl (lv_at hl 3 rfl) ?_
                refine lv_i2l hx hb dX10_lost_160 rfl ?_
                refine lv_lmul hx hb dX10_lost_161 ?_
                refine lv_iload hx hb dX10_lost_162 (lv_at hl 5 rfl) ?_
                refine lv_i2l hx hb dX10_lost_164 rfl ?_
                obtain ⟨g_165, h⟩ := g_guard h
                refine lv_ldiv hx hb dX10_lost_165 g_165 ?_
                exact J166 _ _ _ _ h hI (lv_sub hl [0, 1, 2, 6] rfl)
              · have h := (if_pos c_147).symm.trans h
                refine lv_ldc2 (v := 1000) hx hb F.1.2.2.2.1 (F.1.2.2.2.2 _ kk_X10_201) dX10_lost_150 ?_
                refine lv_goto (tgt := 166) hx hb dX10_lost_153 (by decide) ?_
                exact J166 _ _ _ _ h hI (lv_sub hl [0, 1, 2, 6] rfl)
            · have h := (if_neg c_72).symm.trans h
              refine lv_aload_n hx hb dX10_lost_75 rfl (lv_at hl 0 rfl) ?_
              refine lv_iload_n hx hb dX10_lost_76 rfl (lv_at hl 1 rfl) ?_
              refine lv_iload hx hb dX10_lost_77 (lv_at hl 7 rfl) ?_
              obtain ⟨r_79, e_79, h⟩ := gBind_in h
              refine g_callVi (E' := mE a cI cZ s_57) (k0 := 0) (As := [.int x1, .int v7_57]) (rest := []) F hI (c_X10_isVoid l D a cI cZ F.2.2 N s_57 x1 v7_57 r_79 e_79) kb_X10_isVoid ki_X10_isVoid ks_X10_isVoid km_X10_186 ⟨Nat.le_of_ble_eq_true rfl, Nat.le_of_ble_eq_true rfl, rfl, rfl⟩ (by decide) mE_0 rfl hl.1 rfl (Nat.le_of_ble_eq_true rfl) ⟨Nat.zero_le _, Nat.zero_le _⟩ dX10_lost_79 (fun H locs hI => ?_)
              obtain ⟨j115, hj115, h⟩ := gJoin2_in h
              have J115 : ∀ (w0_115 : Int32) (s_115 : gSt) (H : Heap) (locs : List Loc) (ls : Array Slot), j115 w0_115 s_115 = some out → g_S 21 D a (mE a cI cZ s_115) s.heap H locs → lv_has ls 10 [(0, .ref (a 0)), (1, .int x1), (2, .int x2), (3, .int q_17.1), (4, .int (6 * (g_ga q_17.2 6 x1))), (5, .int v5_57), (6, .int v6_57), (7, .int v7_57)] → W p l e rmX10_lost s m args below meth c H locs 0 0 Q (F0 m 115 ls [.int w0_115]) := by
                intro w0_115 s_115 H locs ls h hI hl
                rw [hj115] at h
                refine lv_istore (lv' := [(8, .int w0_115), (0, .ref (a 0)), (1, .int x1), (2, .int x2), (3, .int q_17.1), (4, .int (6 * (g_ga q_17.2 6 x1))), (5, .int v5_57), (6, .int v6_57), (7, .int v7_57)]) hx hb dX10_lost_115 hl (by decide) rfl (fun ls hl => ?_)
                refine lv_iload hx hb dX10_lost_117 (lv_at hl 6 rfl) ?_
                refine lv_iload hx hb dX10_lost_119 (lv_at hl 0 rfl) ?_
                refine lv_iadd hx hb dX10_lost_121 ?_
                refine lv_istore (lv' := [(5, .int (v5_57 + w0_115)), (8, .int w0_115), (0, .ref (a 0)), (1, .int x1), (2, .int x2), (3, .int q_17.1), (4, .int (6 * (g_ga q_17.2 6 x1))), (6, .int v6_57), (7, .int v7_57)]) hx hb dX10_lost_122 hl (by decide) rfl (fun ls hl => ?_)
                refine lv_iload hx hb dX10_lost_124 (lv_at hl 8 rfl) ?_
                refine lv_iload_n hx hb dX10_lost_126 rfl (lv_at hl 4 rfl) ?_
                obtain ⟨j137, hj137, h⟩ := gJoin1_in h
                have J137 : ∀ (w0_137 : Int32) (H : Heap) (locs : List Loc) (ls : Array Slot), j137 w0_137 = some out → g_S 21 D a (mE a cI cZ s_115) s.heap H locs → lv_has ls 10 [(0, .ref (a 0)), (1, .int x1), (2, .int x2), (3, .int q_17.1), (4, .int (6 * (g_ga q_17.2 6 x1))), (5, .int (v5_57 + w0_115)), (7, .int v7_57)] → W p l e rmX10_lost s m args below meth c H locs 0 0 Q (F0 m 137 ls [.int w0_137]) := by
                  intro w0_137 H locs ls h hI hl
                  rw [hj137] at h
                  refine lv_istore (lv' := [(6, .int w0_137), (0, .ref (a 0)), (1, .int x1), (2, .int x2), (3, .int q_17.1), (4, .int (6 * (g_ga q_17.2 6 x1))), (5, .int (v5_57 + w0_115)), (7, .int v7_57)]) hx hb dX10_lost_137 hl (by decide) rfl (fun ls hl => ?_)
                  refine lv_iinc (v := v7_57 + 1) (lv' := [(7, .int (v7_57 + 1)), (6, .int w0_137), (0, .ref (a 0)), (1, .int x1), (2, .int x2), (3, .int q_17.1), (4, .int (6 * (g_ga q_17.2 6 x1))), (5, .int (v5_57 + w0_115))]) hx hb dX10_lost_139 hl (k := 7) rfl rfl (by decide) rfl (fun ls hl => ?_)
                  refine lv_goto (tgt := 57) hx hb dX10_lost_142 (by decide) ?_
                  exact ih57 _ _ _ _ _ _ _ h hI (lv_sub hl [2, 3, 4, 5, 6, 7, 1, 0] rfl)
                refine lv_icmp_ne (tgt := 135) hx hb dX10_lost_127 (by decide) (fun c_127 => ?_) (fun c_127 => ?_)
                · have h := (if_neg c_127).symm.trans h
                  refine lv_iload hx hb dX10_lost_135 (lv_at hl 7 rfl) ?_
                  exact J137 _ _ _ _ h hI (lv_sub hl [2, 3, 4, 5, 6, 0, 8] rfl)
                · have h := (if_pos c_127).symm.trans h
                  refine lv_iload hx hb dX10_lost_130 (lv_at hl 1 rfl) ?_
                  refine lv_goto (tgt := 137) hx hb dX10_lost_132 (by decide) ?_
                  exact J137 _ _ _ _ h hI (lv_sub hl [2, 3, 4, 5, 6, 0, 8] rfl)
              refine lv_if_eq (tgt := 89) hx hb dX10_lost_82 (by decide) (fun c_82 => ?_) (fun c_82 => ?_)
              · have h := (if_pos c_82).symm.trans h
                refine lv_aload_n hx hb dX10_lost_89 rfl (lv_at hl 0 rfl) ?_
                refine lv_aload_n hx hb dX10_lost_90 rfl (lv_at hl 0 rfl) ?_
                refine g_get F hI (by decide) mE_0 rfl ku_X10 7 (by decide) kf_X10_23 rfl dX10_lost_91 ?_
                refine lv_iload hx hb dX10_lost_94 (lv_at hl 4 rfl) ?_
                refine lv_iload hx hb dX10_lost_96 (lv_at hl 7 rfl) ?_
                refine lv_iadd hx hb dX10_lost_98 ?_
                obtain ⟨g_99, h⟩ := g_guard h
                refine g_iald F hI (by decide) mE_a4 0 rfl g_99 dX10_lost_99 ?_
                refine lv_aload_n hx hb dX10_lost_100 rfl (lv_at hl 0 rfl) ?_
                refine g_get F hI (by decide) mE_0 rfl ku_X10 7 (by decide) kf_X10_23 rfl dX10_lost_101 ?_
                refine lv_iload hx hb dX10_lost_104 (lv_at hl 4 rfl) ?_
                refine lv_iload hx hb dX10_lost_106 (lv_at hl 7 rfl) ?_
                refine lv_iadd hx hb dX10_lost_108 ?_
                refine lv_iconst (v := 1) hx hb dX10_lost_109 (by decide) ?_
                refine lv_iadd hx hb dX10_lost_110 ?_
                obtain ⟨g_111, h⟩ := g_guard h
                refine g_iald F hI (by decide) mE_a4 0 rfl g_111 dX10_lost_111 ?_
                obtain ⟨q_112, e_112, h⟩ := gBind_in h
                refine g_callVi (E' := mE a cI cZ q_112.2) (k0 := 0) (As := [.int (g_ga s_57 4 ((6 * (g_ga q_17.2 6 x1)) + v7_57)), .int (g_ga s_57 4 (((6 * (g_ga q_17.2 6 x1)) + v7_57) + 1))]) (rest := []) F hI (c_X10_bestSplit l D a cI cZ F.2.2 N s_57 (g_ga s_57 4 ((6 * (g_ga q_17.2 6 x1)) + v7_57)) (g_ga s_57 4 (((6 * (g_ga q_17.2 6 x1)) + v7_57) + 1)) q_112 e_112) kb_X10_bestSplit ki_X10_bestSplit ks_X10_bestSplit km_X10_198 ⟨Nat.le_of_ble_eq_true rfl, Nat.le_of_ble_eq_true rfl, rfl, rfl⟩ (by decide) mE_0 rfl hl.1 rfl (Nat.le_of_ble_eq_true rfl) ⟨Nat.zero_le _, Nat.zero_le _⟩ dX10_lost_112 (fun H locs hI => ?_)
                exact J115 _ _ _ _ _ h hI (lv_sub hl [0, 1, 2, 3, 4, 5, 6, 7] rfl)
              · have h := (if_neg c_82).symm.trans h
                refine lv_iconst (v := 0) hx hb dX10_lost_85 (by decide) ?_
                refine lv_goto (tgt := 115) hx hb dX10_lost_86 (by decide) ?_
                exact J115 _ _ _ _ _ h hI (lv_sub hl [0, 1, 2, 3, 4, 5, 6, 7] rfl)
        exact L57 _ _ _ _ _ _ _ _ h hI (lv_sub hl [5, 6, 7, 4, 3, 2, 1, 0] rfl)
      · have h := (if_neg c_32).symm.trans h
        refine lv_iconst (v := -1) hx hb dX10_lost_35 (by decide) ?_
        have h := Option.some.inj h
        subst h
        exact hq _ _ _ _ hI dX10_lost_36
  · have h := (if_pos c_10).symm.trans h
    refine lv_iconst (v := 0) hx hb dX10_lost_13 (by decide) ?_
    have h := Option.some.inj h
    subst h
    exact hq _ _ _ _ hI dX10_lost_14
