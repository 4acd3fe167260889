/-- Spurline.sideWithinLimits(I)I -/
def f_X9_sideWithinLimits (x0 : Int32) : Int32 :=
  jmax 2 (jmin 12 x0)
abbrev rmX9_sideWithinLimits : Room := { frames := 1, cells := 0, slots := 0, locals := 21 }
theorem kb_X9_sideWithinLimits : g_CB yX9_sideWithinLimits cX9_sideWithinLimits 1 (some .int) 1 := ⟨kc_X9_sideWithinLimits, kn_X9, by decide +kernel⟩
set_option maxRecDepth 100000 in
set_option maxHeartbeats 4000000 in
theorem c_X9_sideWithinLimits (l : Launch) (D : va_G) (a : Nat → Nat) (cI : ClassId) (hj : g_Inj 65 a) (σ : gSt) (x0 : Int32) : Met l yX9_sideWithinLimits (Cond.code yX9_sideWithinLimits cX9_sideWithinLimits 1 (some .int) :: gW) rmX9_sideWithinLimits (g_Pc 65 D a (gE a cI σ) [(cI, .int)] [.int x0]) (g_Qi 65 D a (gE a cI σ) (f_X9_sideWithinLimits x0)) 0 0 (g_Own 65 a) := by
  generalize hh : f_X9_sideWithinLimits x0 = out
  refine g_meti (by decide) hj (Nat.le_of_ble_eq_true rfl) ?_
  intro p e s m args below meth c Q ls F hl hI hq
  have hx := F.1.1
  have hb := F.1.2.1
  have hl : lv_has ls 1 [(0, .int x0)] := hl
  have h := hh
  unfold f_X9_sideWithinLimits at h
  refine lv_iconst (v := 2) hx hb dX9_sideWithinLimits_0 (by decide) ?_
  refine lv_bipush (v := 12) hx hb dX9_sideWithinLimits_1 (by decide) ?_
  refine lv_iload_n hx hb dX9_sideWithinLimits_3 rfl (lv_at hl 0 rfl) ?_
  refine g_mmin F hl.1 km_X9_77 ⟨Nat.le_of_ble_eq_true rfl, Nat.le_of_ble_eq_true rfl⟩ ⟨Nat.zero_le _, Nat.zero_le _⟩ dX9_sideWithinLimits_4 ?_
  refine g_mmax F hl.1 km_X9_83 ⟨Nat.le_of_ble_eq_true rfl, Nat.le_of_ble_eq_true rfl⟩ ⟨Nat.zero_le _, Nat.zero_le _⟩ dX9_sideWithinLimits_7 ?_
  subst h
  exact hq _ _ _ _ hI dX9_sideWithinLimits_10
/-- Spurline.setHeight(III)I -/
def f_X9_setHeight (σ : gSt) (x1 x2 x3 : Int32) : Nat × Int32 × gSt :=
  if f_X9_needCell σ x1 x2 = 0 then
    if f_X9_needRange x3 0 255 = 0 then
      (0, (f_X8_replaceHeight σ (f_X8_number x1 x2) x3).1, (f_X8_replaceHeight σ (f_X8_number x1 x2) x3).2)
    else
      (f_X9_needRange x3 0 255, 0, σ)
  else
    (f_X9_needCell σ x1 x2, 0, σ)
abbrev rmX9_setHeight : Room := { frames := 7, cells := 2, slots := 12, locals := 104 }
theorem kb_X9_setHeight : g_CB yX9_setHeight cX9_setHeight 4 (some .int) 3 := ⟨kc_X9_setHeight, kn_X9, by decide +kernel⟩
set_option maxRecDepth 100000 in
set_option maxHeartbeats 4000000 in
theorem c_X9_setHeight (l : Launch) (D : va_G) (a : Nat → Nat) (cI : ClassId) (hj : g_Inj 65 a) (hlt : l.stackTraces = false) (sa : Nat → Nat) (σ : gSt) (x1 x2 x3 : Int32) : vx_Met l yX9_setHeight (Cond.code yX9_setHeight cX9_setHeight 4 (some .int) :: gW) rmX9_setHeight (g_PcX 65 D a (gE a cI σ) [(cI, .int)] sa [.ref (a 0), .int x1, .int x2, .int x3]) (g_QXi 65 D a (gE a cI (f_X9_setHeight σ x1 x2 x3).2.2) (f_X9_setHeight σ x1 x2 x3).1 (f_X9_setHeight σ x1 x2 x3).2.1) (g_XC 65 D a (gE a cI (f_X9_setHeight σ x1 x2 x3).2.2) (f_X9_setHeight σ x1 x2 x3).1) 2 12 (g_Own 65 a) := by
  generalize hh : f_X9_setHeight σ x1 x2 x3 = out
  refine g_mxi (by decide) hj hlt rfl (Nat.le_of_ble_eq_true rfl) ?_
  intro p e s m args below meth c Q ls F X hl hI hq hqx
  have hx := F.1.1
  have hb := F.1.2.1
  have hl : lv_has ls 4 [(0, .ref (a 0)), (1, .int x1), (2, .int x2), (3, .int x3)] := hl
  have h := hh
  unfold f_X9_setHeight at h
  refine lv_aload_n hx hb dX9_setHeight_0 rfl (lv_at hl 0 rfl) ?_
  refine lv_iload_n hx hb dX9_setHeight_1 rfl (lv_at hl 1 rfl) ?_
  refine lv_iload_n hx hb dX9_setHeight_2 rfl (lv_at hl 2 rfl) ?_
  refine g_callXVv (E' := gE a cI σ) (k0 := 0) (As := [.int x1, .int x2]) (rest := []) F X hI (c_X9_needCell l D a cI F.2.2 hlt sa σ x1 x2) kb_X9_needCell ki_X9_needCell ks_X9_needCell km_X9_86 ⟨Nat.le_of_ble_eq_true rfl, Nat.le_of_ble_eq_true rfl, rfl, rfl⟩ (by decide) gE_0 rfl hl.1 rfl (Nat.le_of_ble_eq_true rfl) ⟨Nat.le_of_ble_eq_true rfl, Nat.le_of_ble_eq_true rfl⟩ dX9_setHeight_3 (fun H locs ce q9 hk hI h1 h2 h3 => ?_) (fun H locs hk hI => ?_)
  · have h := (if_neg hk).symm.trans h
    subst h
    exact hqx _ _ _ _ _ _ _ _ _ hk (Nat.le_of_ble_eq_true rfl) (Nat.le_of_ble_eq_true rfl) hI h1 h2 h3
  have h := (if_pos hk).symm.trans h
  refine lv_iload_n hx hb dX9_setHeight_6 rfl (lv_at hl 3 rfl) ?_
  refine lv_iconst (v := 0) hx hb dX9_setHeight_7 (by decide) ?_
  refine lv_sipush (v := 255) hx hb dX9_setHeight_8 (by decide) ?_
  refine g_callXSv (E' := gE a cI σ) (As := [.int x3, .int 0, .int 255]) (rest := []) F X hI (c_X9_needRange l D a cI F.2.2 hlt sa σ x3 0 255) kb_X9_needRange kt_X9_needRange km_X9_89 ⟨Nat.le_of_ble_eq_true rfl, Nat.le_of_ble_eq_true rfl, rfl, rfl⟩ hl.1 rfl (Nat.le_of_ble_eq_true rfl) ⟨Nat.le_of_ble_eq_true rfl, Nat.le_of_ble_eq_true rfl⟩ dX9_setHeight_11 (fun H locs ce q9 hk hI h1 h2 h3 => ?_) (fun H locs hk hI => ?_)
  · have h := (if_neg hk).symm.trans h
    subst h
    exact hqx _ _ _ _ _ _ _ _ _ hk (Nat.le_of_ble_eq_true rfl) (Nat.le_of_ble_eq_true rfl) hI h1 h2 h3
  have h := (if_pos hk).symm.trans h
  refine lv_aload_n hx hb dX9_setHeight_14 rfl (lv_at hl 0 rfl) ?_
  refine g_get F hI (by decide) gE_0 rfl ku_X9 0 (by decide) kf_X9_18 rfl dX9_setHeight_15 ?_
  refine lv_iload_n hx hb dX9_setHeight_18 rfl (lv_at hl 1 rfl) ?_
  refine lv_iload_n hx hb dX9_setHeight_19 rfl (lv_at hl 2 rfl) ?_
  refine g_callSi (E' := gE a cI σ) (As := [.int x1, .int x2]) (rest := [.ref (a 1)]) F hI (c_X8_number l D a cI F.2.2 σ x1 x2) kb_X8_number kt_X8_number km_X9_93 ⟨Nat.le_of_ble_eq_true rfl, Nat.le_of_ble_eq_true rfl, rfl, rfl⟩ hl.1 rfl (Nat.le_of_ble_eq_true rfl) ⟨Nat.le_of_ble_eq_true rfl, Nat.le_of_ble_eq_true rfl⟩ dX9_setHeight_20 (fun H locs hI => ?_)
  refine lv_iload_n hx hb dX9_setHeight_23 rfl (lv_at hl 3 rfl) ?_
  refine g_callVi (E' := gE a cI ((f_X8_replaceHeight σ (f_X8_number x1 x2) x3).2)) (k0 := 1) (As := [.int (f_X8_number x1 x2), .int x3]) (rest := []) F hI (c_X8_replaceHeight l D a cI F.2.2 σ (f_X8_number x1 x2) x3) kb_X8_replaceHeight ki_X8_replaceHeight ks_X8_replaceHeight km_X9_96 ⟨Nat.le_of_ble_eq_true rfl, Nat.le_of_ble_eq_true rfl, rfl, rfl⟩ (by decide) gE_1 rfl hl.1 rfl (Nat.le_of_ble_eq_true rfl) ⟨Nat.le_of_ble_eq_true rfl, Nat.le_of_ble_eq_true rfl⟩ dX9_setHeight_24 (fun H locs hI => ?_)
  subst h
  exact hq _ _ _ _ _ _ rfl (Nat.le_of_ble_eq_true rfl) (Nat.le_of_ble_eq_true rfl) hI dX9_setHeight_27
/-- Spurline.hill(IIII)I -/
def f_X9_hill (N : Nat) (σ : gSt) (x1 x2 x3 x4 : Int32) : Option (Nat × Int32 × gSt) :=
  if f_X9_needCell σ x1 x2 = 0 then
    if f_X9_needRange x3 0 255 = 0 then
      if f_X9_needRange x4 1 255 = 0 then
        (f_X8_raiseAround N σ x1 x2 x3 x4).bind (fun (q_32 : Int32 × gSt) =>
        some (0, q_32.1, q_32.2))
      else
        some (f_X9_needRange x4 1 255, 0, σ)
    else
      some (f_X9_needRange x3 0 255, 0, σ)
  else
    some (f_X9_needCell σ x1 x2, 0, σ)
abbrev rmX9_hill : Room := { frames := 7, cells := 3, slots := 18, locals := 104 }
theorem kb_X9_hill : g_CB yX9_hill cX9_hill 5 (some .int) 4 := ⟨kc_X9_hill, kn_X9, by decide +kernel⟩
set_option maxRecDepth 100000 in
set_option maxHeartbeats 4000000 in
theorem c_X9_hill (l : Launch) (D : va_G) (a : Nat → Nat) (cI : ClassId) (hj : g_Inj 65 a) (hlt : l.stackTraces = false) (sa : Nat → Nat) (N : Nat) (σ : gSt) (x1 x2 x3 x4 : Int32) (out : Nat × Int32 × gSt) (hh : f_X9_hill N σ x1 x2 x3 x4 = some out) : vx_Met l yX9_hill (Cond.code yX9_hill cX9_hill 5 (some .int) :: gW) rmX9_hill (g_PcX 65 D a (gE a cI σ) [(cI, .int)] sa [.ref (a 0), .int x1, .int x2, .int x3, .int x4]) (g_QXi 65 D a (gE a cI out.2.2) out.1 out.2.1) (g_XC 65 D a (gE a cI out.2.2) out.1) 3 18 (g_Own 65 a) := by
  refine g_mxi (by decide) hj hlt rfl (Nat.le_of_ble_eq_true rfl) ?_
  intro p e s m args below meth c Q ls F X hl hI hq hqx
  have hx := F.1.1
  have hb := F.1.2.1
  have hl : lv_has ls 5 [(0, .ref (a 0)), (1, .int x1), (2, .int x2), (3, .int x3), (4, .int x4)] := hl
  have h := hh
  unfold f_X9_hill at h
  refine lv_aload_n hx hb dX9_hill_0 rfl (lv_at hl 0 rfl) ?_
  refine lv_iload_n hx hb dX9_hill_1 rfl (lv_at hl 1 rfl) ?_
  refine lv_iload_n hx hb dX9_hill_2 rfl (lv_at hl 2 rfl) ?_
  refine g_callXVv (E' := gE a cI σ) (k0 := 0) (As := [.int x1, .int x2]) (rest := []) F X hI (c_X9_needCell l D a cI F.2.2 hlt sa σ x1 x2) kb_X9_needCell ki_X9_needCell ks_X9_needCell km_X9_86 ⟨Nat.le_of_ble_eq_true rfl, Nat.le_of_ble_eq_true rfl, rfl, rfl⟩ (by decide) gE_0 rfl hl.1 rfl (Nat.le_of_ble_eq_true rfl) ⟨Nat.le_of_ble_eq_true rfl, Nat.le_of_ble_eq_true rfl⟩ dX9_hill_3 (fun H locs ce q9 hk hI h1 h2 h3 => ?_) (fun H locs hk hI => ?_)
  · have h := (if_neg hk).symm.trans h
    have h := Option.some.inj h
    subst h
    exact hqx _ _ _ _ _ _ _ _ _ hk (Nat.le_of_ble_eq_true rfl) (Nat.le_of_ble_eq_true rfl) hI h1 h2 h3
  have h := (if_pos hk).symm.trans h
  refine lv_iload_n hx hb dX9_hill_6 rfl (lv_at hl 3 rfl) ?_
  refine lv_iconst (v := 0) hx hb dX9_hill_7 (by decide) ?_
  refine lv_sipush (v := 255) hx hb dX9_hill_8 (by decide) ?_
  refine g_callXSv (E' := gE a cI σ) (As := [.int x3, .int 0, .int 255]) (rest := []) F X hI (c_X9_needRange l D a cI F.2.2 hlt sa σ x3 0 255) kb_X9_needRange kt_X9_needRange km_X9_89 ⟨Nat.le_of_ble_eq_true rfl, Nat.le_of_ble_eq_true rfl, rfl, rfl⟩ hl.1 rfl (Nat.le_of_ble_eq_true rfl) ⟨Nat.le_of_ble_eq_true rfl, Nat.le_of_ble_eq_true rfl⟩ dX9_hill_11 (fun H locs ce q9 hk hI h1 h2 h3 => ?_) (fun H locs hk hI => ?_)
  · have h := (if_neg hk).symm.trans h
    have h := Option.some.inj h
    subst h
    exact hqx _ _ _ _ _ _ _ _ _ hk (Nat.le_of_ble_eq_true rfl) (Nat.le_of_ble_eq_true rfl) hI h1 h2 h3
  have h := (if_pos hk).symm.trans h
  refine lv_iload hx hb dX9_hill_14 (lv_at hl 4 rfl) ?_
  refine lv_iconst (v := 1) hx hb dX9_hill_16 (by decide) ?_
  refine lv_sipush (v := 255) hx hb dX9_hill_17 (by decide) ?_
  refine g_callXSv (E' := gE a cI σ) (As := [.int x4, .int 1, .int 255]) (rest := []) F X hI (c_X9_needRange l D a cI F.2.2 hlt sa σ x4 1 255) kb_X9_needRange kt_X9_needRange km_X9_89 ⟨Nat.le_of_ble_eq_true rfl, Nat.le_of_ble_eq_true rfl, rfl, rfl⟩ hl.1 rfl (Nat.le_of_ble_eq_true rfl) ⟨Nat.le_of_ble_eq_true rfl, Nat.le_of_ble_eq_true rfl⟩ dX9_hill_20 (fun H locs ce q9 hk hI h1 h2 h3 => ?_) (fun H locs hk hI => ?_)
  · have h := (if_neg hk).symm.trans h
    have h := Option.some.inj h
    subst h
    exact hqx _ _ _ _ _ _ _ _ _ hk (Nat.le_of_ble_eq_true rfl) (Nat.le_of_ble_eq_true rfl) hI h1 h2 h3
  have h := (if_pos hk).symm.trans h
  refine lv_aload_n hx hb dX9_hill_23 rfl (lv_at hl 0 rfl) ?_
  refine g_get F hI (by decide) gE_0 rfl ku_X9 0 (by decide) kf_X9_18 rfl dX9_hill_24 ?_
  refine lv_iload_n hx hb dX9_hill_27 rfl (lv_at hl 1 rfl) ?_
  refine lv_iload_n hx hb dX9_hill_28 rfl (lv_at hl 2 rfl) ?_
  refine lv_iload_n hx hb dX9_hill_29 rfl (lv_at hl 3 rfl) ?_
  refine lv_iload hx hb dX9_hill_30 (lv_at hl 4 rfl) ?_
  obtain ⟨q_32, e_32, h⟩ := gBind_in h
  refine g_callVi (E' := gE a cI q_32.2) (k0 := 1) (As := [.int x1, .int x2, .int x3, .int x4]) (rest := []) F hI (c_X8_raiseAround l D a cI F.2.2 N σ x1 x2 x3 x4 q_32 e_32) kb_X8_raiseAround ki_X8_raiseAround ks_X8_raiseAround km_X9_99 ⟨Nat.le_of_ble_eq_true rfl, Nat.le_of_ble_eq_true rfl, rfl, rfl⟩ (by decide) gE_1 rfl hl.1 rfl (Nat.le_of_ble_eq_true rfl) ⟨Nat.le_of_ble_eq_true rfl, Nat.le_of_ble_eq_true rfl⟩ dX9_hill_32 (fun H locs hI => ?_)
  have h := Option.some.inj h
  subst h
  exact hq _ _ _ _ _ _ rfl (Nat.le_of_ble_eq_true rfl) (Nat.le_of_ble_eq_true rfl) hI dX9_hill_35
/-- Spurline.setGround(IIIII)I -/
def f_X9_setGround (N : Nat) (σ : gSt) (x1 x2 x3 x4 x5 : Int32) : Option (Nat × Int32 × gSt) :=
  if f_X9_needCell σ x1 x2 = 0 then
    if f_X9_needCell σ x3 x4 = 0 then
      if f_X9_needRange x3 x1 12 = 0 then
        if f_X9_needRange x4 x2 12 = 0 then
          if f_X9_needRange x5 0 4 = 0 then
            (f_X8_cover N σ x1 x2 x3 x4 x5).bind (fun (q_46 : Int32 × gSt) =>
            some (0, q_46.1, q_46.2))
          else
            some (f_X9_needRange x5 0 4, 0, σ)
        else
          some (f_X9_needRange x4 x2 12, 0, σ)
      else
        some (f_X9_needRange x3 x1 12, 0, σ)
    else
      some (f_X9_needCell σ x3 x4, 0, σ)
  else
    some (f_X9_needCell σ x1 x2, 0, σ)
abbrev rmX9_setGround : Room := { frames := 7, cells := 5, slots := 30, locals := 104 }
theorem kb_X9_setGround : g_CB yX9_setGround cX9_setGround 6 (some .int) 5 := ⟨kc_X9_setGround, kn_X9, by decide +kernel⟩
set_option maxRecDepth 100000 in
set_option maxHeartbeats 4000000 in
theorem c_X9_setGround (l : Launch) (D : va_G) (a : Nat → Nat) (cI : ClassId) (hj : g_Inj 65 a) (hlt : l.stackTraces = false) (sa : Nat → Nat) (N : Nat) (σ : gSt) (x1 x2 x3 x4 x5 : Int32) (out : Nat × Int32 × gSt) (hh : f_X9_setGround N σ x1 x2 x3 x4 x5 = some out) : vx_Met l yX9_setGround (Cond.code yX9_setGround cX9_setGround 6 (some .int) :: gW) rmX9_setGround (g_PcX 65 D a (gE a cI σ) [(cI, .int)] sa [.ref (a 0), .int x1, .int x2, .int x3, .int x4, .int x5]) (g_QXi 65 D a (gE a cI out.2.2) out.1 out.2.1) (g_XC 65 D a (gE a cI out.2.2) out.1) 5 30 (g_Own 65 a) := by
  refine g_mxi (by decide) hj hlt rfl (Nat.le_of_ble_eq_true rfl) ?_
  intro p e s m args below meth c Q ls F X hl hI hq hqx
  have hx := F.1.1
  have hb := F.1.2.1
  have hl : lv_has ls 6 [(0, .ref (a 0)), (1, .int x1), (2, .int x2), (3, .int x3), (4, .int x4), (5, .int x5)] := hl
  have h := hh
  unfold f_X9_setGround at h
  refine lv_aload_n hx hb dX9_setGround_0 rfl (lv_at hl 0 rfl) ?_
  refine lv_iload_n hx hb dX9_setGround_1 rfl (lv_at hl 1 rfl) ?_
  refine lv_iload_n hx hb dX9_setGround_2 rfl (lv_at hl 2 rfl) ?_
  refine g_callXVv (E' := gE a cI σ) (k0 := 0) (As := [.int x1, .int x2]) (rest := []) F X hI (c_X9_needCell l D a cI F.2.2 hlt sa σ x1 x2) kb_X9_needCell ki_X9_needCell ks_X9_needCell km_X9_86 ⟨Nat.le_of_ble_eq_true rfl, Nat.le_of_ble_eq_true rfl, rfl, rfl⟩ (by decide) gE_0 rfl hl.1 rfl (Nat.le_of_ble_eq_true rfl) ⟨Nat.le_of_ble_eq_true rfl, Nat.le_of_ble_eq_true rfl⟩ dX9_setGround_3 (fun H locs ce q9 hk hI h1 h2 h3 => ?_) (fun H locs hk hI => ?_)
  · have h := (if_neg hk).symm.trans h
    have h := Option.some.inj h
    subst h
    exact hqx _ _ _ _ _ _ _ _ _ hk (Nat.le_of_ble_eq_true rfl) (Nat.le_of_ble_eq_true rfl) hI h1 h2 h3
  have h := (if_pos hk).symm.trans h
  refine lv_aload_n hx hb dX9_setGround_6 rfl (lv_at hl 0 rfl) ?_
  refine lv_iload_n hx hb dX9_setGround_7 rfl (lv_at hl 3 rfl) ?_
  refine lv_iload hx hb dX9_setGround_8 (lv_at hl 4 rfl) ?_
  refine g_callXVv (E' := gE a cI σ) (k0 := 0) (As := [.int x3, .int x4]) (rest := []) F X hI (c_X9_needCell l D a cI F.2.2 hlt sa σ x3 x4) kb_X9_needCell ki_X9_needCell ks_X9_needCell km_X9_86 ⟨Nat.le_of_ble_eq_true rfl, Nat.le_of_ble_eq_true rfl, rfl, rfl⟩ (by decide) gE_0 rfl hl.1 rfl (Nat.le_of_ble_eq_true rfl) ⟨Nat.le_of_ble_eq_true rfl, Nat.le_of_ble_eq_true rfl⟩ dX9_setGround_10 (fun H locs ce q9 hk hI h1 h2 h3 => ?_) (fun H locs hk hI => ?_)
  · have h := (if_neg hk).symm.trans h
    have h := Option.some.inj h
    subst h
    exact hqx _ _ _ _ _ _ _ _ _ hk (Nat.le_of_ble_eq_true rfl) (Nat.le_of_ble_eq_true rfl) hI h1 h2 h3
  have h := (if_pos hk).symm.trans h
  refine lv_iload_n hx hb dX9_setGround_13 rfl (lv_at hl 3 rfl) ?_
  refine lv_iload_n hx hb dX9_setGround_14 rfl (lv_at hl 1 rfl) ?_
  refine lv_bipush (v := 12) hx hb dX9_setGround_15 (by decide) ?_
  refine g_callXSv (E' := gE a cI σ) (As := [.int x3, .int x1, .int 12]) (rest := []) F X hI (c_X9_needRange l D a cI F.2.2 hlt sa σ x3 x1 12) kb_X9_needRange kt_X9_needRange km_X9_89 ⟨Nat.le_of_ble_eq_true rfl, Nat.le_of_ble_eq_true rfl, rfl, rfl⟩ hl.1 rfl (Nat.le_of_ble_eq_true rfl) ⟨Nat.le_of_ble_eq_true rfl, Nat.le_of_ble_eq_true rfl⟩ dX9_setGround_17 (fun H locs ce q9 hk hI h1 h2 h3 => ?_) (fun H locs hk hI => ?_)
  · have h := (if_neg hk).symm.trans h
    have h := Option.some.inj h
    subst h
    exact hqx _ _ _ _ _ _ _ _ _ hk (Nat.le_of_ble_eq_true rfl) (Nat.le_of_ble_eq_true rfl) hI h1 h2 h3
  have h := (if_pos hk).symm.trans h
  refine lv_iload hx hb dX9_setGround_20 (lv_at hl 4 rfl) ?_
  refine lv_iload_n hx hb dX9_setGround_22 rfl (lv_at hl 2 rfl) ?_
  refine lv_bipush (v := 12) hx hb dX9_setGround_23 (by decide) ?_
  refine g_callXSv (E' := gE a cI σ) (As := [.int x4, .int x2, .int 12]) (rest := []) F X hI (c_X9_needRange l D a cI F.2.2 hlt sa σ x4 x2 12) kb_X9_needRange kt_X9_needRange km_X9_89 ⟨Nat.le_of_ble_eq_true rfl, Nat.le_of_ble_eq_true rfl, rfl, rfl⟩ hl.1 rfl (Nat.le_of_ble_eq_true rfl) ⟨Nat.le_of_ble_eq_true rfl, Nat.le_of_ble_eq_true rfl⟩ dX9_setGround_25 (fun H locs ce q9 hk hI h1 h2 h3 => ?_) (fun H locs hk hI => ?_)
  · have h := (if_neg hk).symm.trans h
    have h := Option.some.inj h
    subst h
    exact hqx _ _ _ _ _ _ _ _ _ hk (Nat.le_of_ble_eq_true rfl) (Nat.le_of_ble_eq_true rfl) hI h1 h2 h3
  have h := (if_pos hk).symm.trans h
  refine lv_iload hx hb dX9_setGround_28 (lv_at hl 5 rfl) ?_
  refine lv_iconst (v := 0) hx hb dX9_setGround_30 (by decide) ?_
  refine lv_iconst (v := 4) hx hb dX9_setGround_31 (by decide) ?_
  refine g_callXSv (E' := gE a cI σ) (As := [.int x5, .int 0, .int 4]) (rest := []) F X hI (c_X9_needRange l D a cI F.2.2 hlt sa σ x5 0 4) kb_X9_needRange kt_X9_needRange km_X9_89 ⟨Nat.le_of_ble_eq_true rfl, Nat.le_of_ble_eq_true rfl, rfl, rfl⟩ hl.1 rfl (Nat.le_of_ble_eq_true rfl) ⟨Nat.le_of_ble_eq_true rfl, Nat.le_of_ble_eq_true rfl⟩ dX9_setGround_32 (fun H locs ce q9 hk hI h1 h2 h3 => ?_) (fun H locs hk hI => ?_)
  · have h := (if_neg hk).symm.trans h
    have h := Option.some.inj h
    subst h
    exact hqx _ _ _ _ _ _ _ _ _ hk (Nat.le_of_ble_eq_true rfl) (Nat.le_of_ble_eq_true rfl) hI h1 h2 h3
  have h := (if_pos hk).symm.trans h
  refine lv_aload_n hx hb dX9_setGround_35 rfl (lv_at hl 0 rfl) ?_
  refine g_get F hI (by decide) gE_0 rfl ku_X9 0 (by decide) kf_X9_18 rfl dX9_setGround_36 ?_
  refine lv_iload_n hx hb dX9_setGround_39 rfl (lv_at hl 1 rfl) ?_
  refine lv_iload_n hx hb dX9_setGround_40 rfl (lv_at hl 2 rfl) ?_
  refine lv_iload_n hx hb dX9_setGround_41 rfl (lv_at hl 3 rfl) ?_
  refine lv_iload hx hb dX9_setGround_42 (lv_at hl 4 rfl) ?_
  refine lv_iload hx hb dX9_setGround_44 (lv_at hl 5 rfl) ?_
  obtain ⟨q_46, e_46, h⟩ := gBind_in h
  refine g_callVi (E' := gE a cI q_46.2) (k0 := 1) (As := [.int x1, .int x2, .int x3, .int x4, .int x5]) (rest := []) F hI (c_X8_cover l D a cI F.2.2 N σ x1 x2 x3 x4 x5 q_46 e_46) kb_X8_cover ki_X8_cover ks_X8_cover km_X9_103 ⟨Nat.le_of_ble_eq_true rfl, Nat.le_of_ble_eq_true rfl, rfl, rfl⟩ (by decide) gE_1 rfl hl.1 rfl (Nat.le_of_ble_eq_true rfl) ⟨Nat.le_of_ble_eq_true rfl, Nat.le_of_ble_eq_true rfl⟩ dX9_setGround_46 (fun H locs hI => ?_)
  have h := Option.some.inj h
  subst h
  exact hq _ _ _ _ _ _ rfl (Nat.le_of_ble_eq_true rfl) (Nat.le_of_ble_eq_true rfl) hI dX9_setGround_49
/-- Spurline.control(II)I -/
def f_X9_control (N : Nat) (σ : gSt) (x1 x2 : Int32) : Option (Nat × Int32 × gSt) :=
  if f_X9_needCell σ x1 x2 = 0 then
    gJoin1 (fun (w0_29 : Int32) =>
        if f_X9_needState w0_29 = 0 then
          (f_X1_standsIn N σ (f_X8_number x1 x2)).bind (fun (r_37 : Int32) =>
          gJoin1 (fun (w0_59 : Int32) =>
              if f_X9_needState w0_59 = 0 then
                some (0, (f_X1_add σ (f_X8_number x1 x2)).1, (f_X1_add σ (f_X8_number x1 x2)).2)
              else
                some (f_X9_needState w0_59, 0, σ)) (fun j59 =>
          gJoin0 (
              j59 0) (fun j58 =>
            if r_37 = 0 then
              if f_X8_isForbidden σ (f_X8_number x1 x2) = 0 then
                j59 1
              else
                j58
            else
              j58)))
        else
          some (f_X9_needState w0_29, 0, σ)) (fun j29 =>
      if 12 ≤ f_X1_count σ then
        j29 0
      else
        j29 1)
  else
    some (f_X9_needCell σ x1 x2, 0, σ)
abbrev rmX9_control : Room := { frames := 7, cells := 3, slots := 18, locals := 104 }
theorem kb_X9_control : g_CB yX9_control cX9_control 4 (some .int) 2 := ⟨kc_X9_control, kn_X9, by decide +kernel⟩
set_option maxRecDepth 100000 in
set_option maxHeartbeats 4000000 in
theorem c_X9_control (l : Launch) (D : va_G) (a : Nat → Nat) (cI : ClassId) (hj : g_Inj 65 a) (hlt : l.stackTraces = false) (sa : Nat → Nat) (N : Nat) (σ : gSt) (x1 x2 : Int32) (out : Nat × Int32 × gSt) (hh : f_X9_control N σ x1 x2 = some out) : vx_Met l yX9_control (Cond.code yX9_control cX9_control 4 (some .int) :: gW) rmX9_control (g_PcX 65 D a (gE a cI σ) [(cI, .int)] sa [.ref (a 0), .int x1, .int x2]) (g_QXi 65 D a (gE a cI out.2.2) out.1 out.2.1) (g_XC 65 D a (gE a cI out.2.2) out.1) 3 18 (g_Own 65 a) := by
  refine g_mxi (by decide) hj hlt rfl (Nat.le_of_ble_eq_true rfl) ?_
  intro p e s m args below meth c Q ls F X hl hI hq hqx
  have hx := F.1.1
  have hb := F.1.2.1
  have hl : lv_has ls 4 [(0, .ref (a 0)), (1, .int x1), (2, .int x2)] := hl
  have h := hh
  unfold f_X9_control at h
  refine lv_aload_n hx hb dX9_control_0 rfl (lv_at hl 0 rfl) ?_
  refine lv_iload_n hx hb dX9_control_1 rfl (lv_at hl 1 rfl) ?_
  refine lv_iload_n hx hb dX9_control_2 rfl (lv_at hl 2 rfl) ?_
  refine g_callXVv (E' := gE a cI σ) (k0 := 0) (As := [.int x1, .int x2]) (rest := []) F X hI (c_X9_needCell l D a cI F.2.2 hlt sa σ x1 x2) kb_X9_needCell ki_X9_needCell ks_X9_needCell km_X9_86 ⟨Nat.le_of_ble_eq_true rfl, Nat.le_of_ble_eq_true rfl, rfl, rfl⟩ (by decide) gE_0 rfl hl.1 rfl (Nat.le_of_ble_eq_true rfl) ⟨Nat.le_of_ble_eq_true rfl, Nat.le_of_ble_eq_true rfl⟩ dX9_control_3 (fun H locs ce q9 hk hI h1 h2 h3 => ?_) (fun H locs hk hI => ?_)
  · have h := (if_neg hk).symm.trans h
    have h := Option.some.inj h
    subst h
    exact hqx _ _ _ _ _ _ _ _ _ hk (Nat.le_of_ble_eq_true rfl) (Nat.le_of_ble_eq_true rfl) hI h1 h2 h3
  have h := (if_pos hk).symm.trans h
  refine lv_iload_n hx hb dX9_control_6 rfl (lv_at hl 1 rfl) ?_
  refine lv_iload_n hx hb dX9_control_7 rfl (lv_at hl 2 rfl) ?_
  refine g_callSi (E' := gE a cI σ) (As := [.int x1, .int x2]) (rest := []) F hI (c_X8_number l D a cI F.2.2 σ x1 x2) kb_X8_number kt_X8_number km_X9_93 ⟨Nat.le_of_ble_eq_true rfl, Nat.le_of_ble_eq_true rfl, rfl, rfl⟩ hl.1 rfl (Nat.le_of_ble_eq_true rfl) ⟨Nat.le_of_ble_eq_true rfl, Nat.le_of_ble_eq_true rfl⟩ dX9_control_8 (fun H locs hI => ?_)
  refine lv_istore_n (lv' := [(3, .int (f_X8_number x1 x2)), (0, .ref (a 0)), (1, .int x1), (2, .int x2)]) hx hb dX9_control_11 rfl hl (by decide) rfl (fun ls hl => ?_)
  refine lv_aload_n hx hb dX9_control_12 rfl (lv_at hl 1 rfl) ?_
  refine g_get F hI (by decide) gE_0 rfl ku_X9 3 (by decide) kf_X9_41 rfl dX9_control_13 ?_
  refine g_callVi (E' := gE a cI σ) (k0 := 4) (As := []) (rest := []) F hI (c_X1_count l D a cI F.2.2 σ) kb_X1_count ki_X1_count ks_X1_count km_X9_107 ⟨Nat.le_of_ble_eq_true rfl, Nat.le_of_ble_eq_true rfl, rfl, rfl⟩ (by decide) gE_4 rfl hl.1 rfl (Nat.le_of_ble_eq_true rfl) ⟨Nat.le_of_ble_eq_true rfl, Nat.le_of_ble_eq_true rfl⟩ dX9_control_16 (fun H locs hI => ?_)
  refine lv_bipush (v := 12) hx hb dX9_control_19 (by decide) ?_
  obtain ⟨j29, hj29, h⟩ := gJoin1_in h
  have J29 : ∀ (w0_29 : Int32) (H : Heap) (locs : List Loc) (ls : Array Slot), j29 w0_29 = some out → g_S 65 D a (gE a cI σ) s.heap H locs → lv_has ls 4 [(0, .ref (a 0)), (3, .int (f_X8_number x1 x2))] → W p l e rmX9_control s m args below meth c H locs 1 6 Q (F0 m 29 ls [.int w0_29]) := by
    intro w0_29 H locs ls h hI hl
    rw [hj29] at h
    refine g_callXSv (E' := gE a cI σ) (As := [.int w0_29]) (rest := []) F X hI (c_X9_needState l D a cI F.2.2 hlt sa σ w0_29) kb_X9_needState kt_X9_needState km_X9_111 ⟨Nat.le_of_ble_eq_true rfl, Nat.le_of_ble_eq_true rfl, rfl, rfl⟩ hl.1 rfl (Nat.le_of_ble_eq_true rfl) ⟨Nat.le_of_ble_eq_true rfl, Nat.le_of_ble_eq_true rfl⟩ dX9_control_29 (fun H locs ce q9 hk hI h1 h2 h3 => ?_) (fun H locs hk hI => ?_)
    · have h := (if_neg hk).symm.trans h
      have h := Option.some.inj h
      subst h
      exact hqx _ _ _ _ _ _ _ _ _ hk (Nat.le_of_ble_eq_true rfl) (Nat.le_of_ble_eq_true rfl) hI h1 h2 h3
    have h := (if_pos hk).symm.trans h
    refine lv_aload_n hx hb dX9_control_32 rfl (lv_at hl 0 rfl) ?_
    refine g_get F hI (by decide) gE_0 rfl ku_X9 3 (by decide) kf_X9_41 rfl dX9_control_33 ?_
    refine lv_iload_n hx hb dX9_control_36 rfl (lv_at hl 1 rfl) ?_
    obtain ⟨r_37, e_37, h⟩ := gBind_in h
    refine g_callVi (E' := gE a cI σ) (k0 := 4) (As := [.int (f_X8_number x1 x2)]) (rest := []) F hI (c_X1_standsIn l D a cI F.2.2 N σ (f_X8_number x1 x2) r_37 e_37) kb_X1_standsIn ki_X1_standsIn ks_X1_standsIn km_X9_115 ⟨Nat.le_of_ble_eq_true rfl, Nat.le_of_ble_eq_true rfl, rfl, rfl⟩ (by decide) gE_4 rfl hl.1 rfl (Nat.le_of_ble_eq_true rfl) ⟨Nat.le_of_ble_eq_true rfl, Nat.le_of_ble_eq_true rfl⟩ dX9_control_37 (fun H locs hI => ?_)
    obtain ⟨j59, hj59, h⟩ := gJoin1_in h
    have J59 : ∀ (w0_59 : Int32) (H : Heap) (locs : List Loc) (ls : Array Slot), j59 w0_59 = some out → g_S 65 D a (gE a cI σ) s.heap H locs → lv_has ls 4 [(0, .ref (a 0)), (3, .int (f_X8_number x1 x2))] → W p l e rmX9_control s m args below meth c H locs 2 12 Q (F0 m 59 ls [.int w0_59]) := by
      intro w0_59 H locs ls h hI hl
      rw [hj59] at h
      refine g_callXSv (E' := gE a cI σ) (As := [.int w0_59]) (rest := []) F X hI (c_X9_needState l D a cI F.2.2 hlt sa σ w0_59) kb_X9_needState kt_X9_needState km_X9_111 ⟨Nat.le_of_ble_eq_true rfl, Nat.le_of_ble_eq_true rfl, rfl, rfl⟩ hl.1 rfl (Nat.le_of_ble_eq_true rfl) ⟨Nat.le_of_ble_eq_true rfl, Nat.le_of_ble_eq_true rfl⟩ dX9_control_59 (fun H locs ce q9 hk hI h1 h2 h3 => ?_) (fun H locs hk hI => ?_)
      · have h := (if_neg hk).symm.trans h
        have h := Option.some.inj h
        subst h
        exact hqx _ _ _ _ _ _ _ _ _ hk (Nat.le_of_ble_eq_true rfl) (Nat.le_of_ble_eq_true rfl) hI h1 h2 h3
      have h := (if_pos hk).symm.trans h
      refine lv_aload_n hx hb dX9_control_62 rfl (lv_at hl 0 rfl) ?_
      refine g_get F hI (by decide) gE_0 rfl ku_X9 3 (by decide) kf_X9_41 rfl dX9_control_63 ?_
      refine lv_iload_n hx hb dX9_control_66 rfl (lv_at hl 1 rfl) ?_
      refine g_callVi (E' := gE a cI ((f_X1_add σ (f_X8_number x1 x2)).2)) (k0 := 4) (As := [.int (f_X8_number x1 x2)]) (rest := []) F hI (c_X1_add l D a cI F.2.2 σ (f_X8_number x1 x2)) kb_X1_add ki_X1_add ks_X1_add km_X9_122 ⟨Nat.le_of_ble_eq_true rfl, Nat.le_of_ble_eq_true rfl, rfl, rfl⟩ (by decide) gE_4 rfl hl.1 rfl (Nat.le_of_ble_eq_true rfl) ⟨Nat.le_of_ble_eq_true rfl, Nat.le_of_ble_eq_true rfl⟩ dX9_control_67 (fun H locs hI => ?_)
      have h := Option.some.inj h
      subst h
      exact hq _ _ _ _ _ _ rfl (Nat.le_of_ble_eq_true rfl) (Nat.le_of_ble_eq_true rfl) hI dX9_control_70
    obtain ⟨j58, hj58, h⟩ := gJoin0_in h
    have J58 : ∀ (H : Heap) (locs : List Loc) (ls : Array Slot), j58  = some out → g_S 65 D a (gE a cI σ) s.heap H locs → lv_has ls 4 [(0, .ref (a 0)), (3, .int (f_X8_number x1 x2))] → W p l e rmX9_control s m args below meth c H locs 2 12 Q (F0 m 58 ls []) := by
      intro  H locs ls h hI hl
      rw [hj58] at h
      refine lv_iconst (v := 0) hx hb dX9_control_58 (by decide) ?_
      exact J59 _ _ _ _ h hI (lv_sub hl [0, 1] rfl)
    refine lv_if_ne (tgt := 58) hx hb dX9_control_40 (by decide) (fun c_40 => ?_) (fun c_40 => ?_)
    · have h := (if_neg c_40).symm.trans h
      exact J58 _ _ _ h hI (lv_sub hl [0, 1] rfl)
    · have h := (if_pos c_40).symm.trans h
      refine lv_aload_n hx hb dX9_control_43 rfl (lv_at hl 0 rfl) ?_
      refine g_get F hI (by decide) gE_0 rfl ku_X9 0 (by decide) kf_X9_18 rfl dX9_control_44 ?_
      refine lv_iload_n hx hb dX9_control_47 rfl (lv_at hl 1 rfl) ?_
      refine g_callVi (E' := gE a cI σ) (k0 := 1) (As := [.int (f_X8_number x1 x2)]) (rest := []) F hI (c_X8_isForbidden l D a cI F.2.2 σ (f_X8_number x1 x2)) kb_X8_isForbidden ki_X8_isForbidden ks_X8_isForbidden km_X9_119 ⟨Nat.le_of_ble_eq_true rfl, Nat.le_of_ble_eq_true rfl, rfl, rfl⟩ (by decide) gE_1 rfl hl.1 rfl (Nat.le_of_ble_eq_true rfl) ⟨Nat.le_of_ble_eq_true rfl, Nat.le_of_ble_eq_true rfl⟩ dX9_control_48 (fun H locs hI => ?_)
      refine lv_if_ne (tgt := 58) hx hb dX9_control_51 (by decide) (fun c_51 => ?_) (fun c_51 => ?_)
      · have h := (if_neg c_51).symm.trans h
        exact J58 _ _ _ h hI (lv_sub hl [0, 1] rfl)
      · have h := (if_pos c_51).symm.trans h
        refine lv_iconst (v := 1) hx hb dX9_control_54 (by decide) ?_
        refine lv_goto (tgt := 59) hx hb dX9_control_55 (by decide) ?_
        exact J59 _ _ _ _ h hI (lv_sub hl [0, 1] rfl)
  refine lv_icmp_ge (tgt := 28) hx hb dX9_control_21 (by decide) (fun c_21 => ?_) (fun c_21 => ?_)
  · have h := (if_pos c_21).symm.trans h
    refine lv_iconst (v := 0) hx hb dX9_control_28 (by decide) ?_
    exact J29 _ _ _ _ h hI (lv_sub hl [1, 0] rfl)
  · have h := (if_neg c_21).symm.trans h
    refine lv_iconst (v := 1) hx hb dX9_control_24 (by decide) ?_
    refine lv_goto (tgt := 29) hx hb dX9_control_25 (by decide) ?_
    exact J29 _ _ _ _ h hI (lv_sub hl [1, 0] rfl)
/-- Spurline.needKlass(I)V -/
def f_X9_needKlass (x0 : Int32) : Nat :=
  if f_X9_needIndex x0 5 = 0 then
    0
  else
    f_X9_needIndex x0 5
abbrev rmX9_needKlass : Room := { frames := 7, cells := 1, slots := 6, locals := 103 }
theorem kb_X9_needKlass : g_CB yX9_needKlass cX9_needKlass 1 none 1 := ⟨kc_X9_needKlass, kn_X9, by decide +kernel⟩
set_option maxRecDepth 100000 in
set_option maxHeartbeats 4000000 in
theorem c_X9_needKlass (l : Launch) (D : va_G) (a : Nat → Nat) (cI : ClassId) (hj : g_Inj 65 a) (hlt : l.stackTraces = false) (sa : Nat → Nat) (σ : gSt) (x0 : Int32) : vx_Met l yX9_needKlass (Cond.code yX9_needKlass cX9_needKlass 1 none :: gW) rmX9_needKlass (g_PcX 65 D a (gE a cI σ) [(cI, .int)] sa [.int x0]) (g_QXv 65 D a (gE a cI σ) (f_X9_needKlass x0)) (g_XC 65 D a (gE a cI σ) (f_X9_needKlass x0)) 1 6 (g_Own 65 a) := by
  generalize hh : f_X9_needKlass x0 = out
  refine g_mxv (by decide) hj hlt rfl (Nat.le_of_ble_eq_true rfl) ?_
  intro p e s m args below meth c Q ls F X hl hI hq hqx htr
  have hx := F.1.1
  have hb := F.1.2.1
  have hl : lv_has ls 1 [(0, .int x0)] := hl
  have h := hh
  unfold f_X9_needKlass at h
  refine lv_iload_n hx hb dX9_needKlass_0 rfl (lv_at hl 0 rfl) ?_
  refine lv_iconst (v := 5) hx hb dX9_needKlass_1 (by decide) ?_
  refine g_callXSv (E' := gE a cI σ) (As := [.int x0, .int 5]) (rest := []) F X hI (c_X9_needIndex l D a cI F.2.2 hlt sa σ x0 5) kb_X9_needIndex kt_X9_needIndex km_X9_220 ⟨Nat.le_of_ble_eq_true rfl, Nat.le_of_ble_eq_true rfl, rfl, rfl⟩ hl.1 rfl (Nat.le_of_ble_eq_true rfl) ⟨Nat.le_of_ble_eq_true rfl, Nat.le_of_ble_eq_true rfl⟩ dX9_needKlass_2 (fun H locs ce q9 hk hI h1 h2 h3 => ?_) (fun H locs hk hI => ?_)
  · have h := (if_neg hk).symm.trans h
    subst h
    exact hqx _ _ _ _ _ _ _ _ _ hk (Nat.le_of_ble_eq_true rfl) (Nat.le_of_ble_eq_true rfl) hI h1 h2 h3
  have h := (if_pos hk).symm.trans h
  subst h
  exact hq _ _ _ _ _ _ rfl (Nat.le_of_ble_eq_true rfl) (Nat.le_of_ble_eq_true rfl) hI dX9_needKlass_5
/-- Spurline.needControl(I)V -/
def f_X9_needControl (σ : gSt) (x1 : Int32) : Nat :=
  if f_X9_needIndex x1 (f_X1_count σ) = 0 then
    0
  else
    f_X9_needIndex x1 (f_X1_count σ)
abbrev rmX9_needControl : Room := { frames := 7, cells := 1, slots := 6, locals := 103 }
theorem kb_X9_needControl : g_CB yX9_needControl cX9_needControl 2 none 1 := ⟨kc_X9_needControl, kn_X9, by decide +kernel⟩
set_option maxRecDepth 100000 in
set_option maxHeartbeats 4000000 in
theorem c_X9_needControl (l : Launch) (D : va_G) (a : Nat → Nat) (cI : ClassId) (hj : g_Inj 65 a) (hlt : l.stackTraces = false) (sa : Nat → Nat) (σ : gSt) (x1 : Int32) : vx_Met l yX9_needControl (Cond.code yX9_needControl cX9_needControl 2 none :: gW) rmX9_needControl (g_PcX 65 D a (gE a cI σ) [(cI, .int)] sa [.ref (a 0), .int x1]) (g_QXv 65 D a (gE a cI σ) (f_X9_needControl σ x1)) (g_XC 65 D a (gE a cI σ) (f_X9_needControl σ x1)) 1 6 (g_Own 65 a) := by
  generalize hh : f_X9_needControl σ x1 = out
  refine g_mxv (by decide) hj hlt rfl (Nat.le_of_ble_eq_true rfl) ?_
  intro p e s m args below meth c Q ls F X hl hI hq hqx htr
  have hx := F.1.1
  have hb := F.1.2.1
  have hl : lv_has ls 2 [(0, .ref (a 0)), (1, .int x1)] := hl
  have h := hh
  unfold f_X9_needControl at h
  refine lv_iload_n hx hb dX9_needControl_0 rfl (lv_at hl 1 rfl) ?_
  refine lv_aload_n hx hb dX9_needControl_1 rfl (lv_at hl 0 rfl) ?_
  refine g_get F hI (by decide) gE_0 rfl ku_X9 3 (by decide) kf_X9_41 rfl dX9_needControl_2 ?_
  refine g_callVi (E' := gE a cI σ) (k0 := 4) (As := []) (rest := [.int x1]) F hI (c_X1_count l D a cI F.2.2 σ) kb_X1_count ki_X1_count ks_X1_count km_X9_107 ⟨Nat.le_of_ble_eq_true rfl, Nat.le_of_ble_eq_true rfl, rfl, rfl⟩ (by decide) gE_4 rfl hl.1 rfl (Nat.le_of_ble_eq_true rfl) ⟨Nat.le_of_ble_eq_true rfl, Nat.le_of_ble_eq_true rfl⟩ dX9_needControl_5 (fun H locs hI => ?_)
  refine g_callXSv (E' := gE a cI σ) (As := [.int x1, .int (f_X1_count σ)]) (rest := []) F X hI (c_X9_needIndex l D a cI F.2.2 hlt sa σ x1 (f_X1_count σ)) kb_X9_needIndex kt_X9_needIndex km_X9_220 ⟨Nat.le_of_ble_eq_true rfl, Nat.le_of_ble_eq_true rfl, rfl, rfl⟩ hl.1 rfl (Nat.le_of_ble_eq_true rfl) ⟨Nat.le_of_ble_eq_true rfl, Nat.le_of_ble_eq_true rfl⟩ dX9_needControl_8 (fun H locs ce q9 hk hI h1 h2 h3 => ?_) (fun H locs hk hI => ?_)
  · have h := (if_neg hk).symm.trans h
    subst h
    exact hqx _ _ _ _ _ _ _ _ _ hk (Nat.le_of_ble_eq_true rfl) (Nat.le_of_ble_eq_true rfl) hI h1 h2 h3
  have h := (if_pos hk).symm.trans h
  subst h
  exact hq _ _ _ _ _ _ rfl (Nat.le_of_ble_eq_true rfl) (Nat.le_of_ble_eq_true rfl) hI dX9_needControl_11
/-- Spurline.visit(II)I -/
def f_X9_visit (N : Nat) (σ : gSt) (x1 x2 : Int32) : Option (Nat × Int32 × gSt) :=
  if f_X9_needKlass x1 = 0 then
    if f_X9_needControl σ x2 = 0 then
      gJoin1 (fun (w0_39 : Int32) =>
          if f_X9_needState w0_39 = 0 then
            gJoin1 (fun (w0_57 : Int32) =>
                if f_X9_needState w0_57 = 0 then
                  some (0, (f_X2_append σ x1 x2).1, (f_X2_append σ x1 x2).2)
                else
                  some (f_X9_needState w0_57, 0, σ)) (fun j57 =>
              if f_X3_areDrawn σ = 0 then
                j57 1
              else
                j57 0)
          else
            some (f_X9_needState w0_39, 0, σ)) (fun j39 =>
      gJoin0 (
          j39 0) (fun j38 =>
        if 6 ≤ f_X2_length σ x1 then
          j38
        else
          (f_X2_contains N σ x1 x2).bind (fun (r_28 : Int32) =>
          if r_28 = 0 then
            j39 1
          else
            j38)))
    else
      some (f_X9_needControl σ x2, 0, σ)
  else
    some (f_X9_needKlass x1, 0, σ)
abbrev rmX9_visit : Room := { frames := 8, cells := 4, slots := 24, locals := 124 }
theorem kb_X9_visit : g_CB yX9_visit cX9_visit 3 (some .int) 2 := ⟨kc_X9_visit, kn_X9, by decide +kernel⟩
set_option maxRecDepth 100000 in
set_option maxHeartbeats 4000000 in
theorem c_X9_visit (l : Launch) (D : va_G) (a : Nat → Nat) (cI : ClassId) (hj : g_Inj 65 a) (hlt : l.stackTraces = false) (sa : Nat → Nat) (N : Nat) (σ : gSt) (x1 x2 : Int32) (out : Nat × Int32 × gSt) (hh : f_X9_visit N σ x1 x2 = some out) : vx_Met l yX9_visit (Cond.code yX9_visit cX9_visit 3 (some .int) :: gW) rmX9_visit (g_PcX 65 D a (gE a cI σ) [(cI, .int)] sa [.ref (a 0), .int x1, .int x2]) (g_QXi 65 D a (gE a cI out.2.2) out.1 out.2.1) (g_XC 65 D a (gE a cI out.2.2) out.1) 4 24 (g_Own 65 a) := by
  refine g_mxi (by decide) hj hlt rfl (Nat.le_of_ble_eq_true rfl) ?_
  intro p e s m args below meth c Q ls F X hl hI hq hqx
  have hx := F.1.1
  have hb := F.1.2.1
  have hl : lv_has ls 3 [(0, .ref (a 0)), (1, .int x1), (2, .int x2)] := hl
  have h := hh
  unfold f_X9_visit at h
  refine lv_iload_n hx hb dX9_visit_0 rfl (lv_at hl 1 rfl) ?_
  refine g_callXSv (E' := gE a cI σ) (As := [.int x1]) (rest := []) F X hI (c_X9_needKlass l D a cI F.2.2 hlt sa σ x1) kb_X9_needKlass kt_X9_needKlass km_X9_125 ⟨Nat.le_of_ble_eq_true rfl, Nat.le_of_ble_eq_true rfl, rfl, rfl⟩ hl.1 rfl (Nat.le_of_ble_eq_true rfl) ⟨Nat.le_of_ble_eq_true rfl, Nat.le_of_ble_eq_true rfl⟩ dX9_visit_1 (fun H locs ce q9 hk hI h1 h2 h3 => ?_) (fun H locs hk hI => ?_)
  · have h := (if_neg hk).symm.trans h
    have h := Option.some.inj h
    subst h
    exact hqx _ _ _ _ _ _ _ _ _ hk (Nat.le_of_ble_eq_true rfl) (Nat.le_of_ble_eq_true rfl) hI h1 h2 h3
  have h := (if_pos hk).symm.trans h
  refine lv_aload_n hx hb dX9_visit_4 rfl (lv_at hl 0 rfl) ?_
  refine lv_iload_n hx hb dX9_visit_5 rfl (lv_at hl 2 rfl) ?_
  refine g_callXVv (E' := gE a cI σ) (k0 := 0) (As := [.int x2]) (rest := []) F X hI (c_X9_needControl l D a cI F.2.2 hlt sa σ x2) kb_X9_needControl ki_X9_needControl ks_X9_needControl km_X9_129 ⟨Nat.le_of_ble_eq_true rfl, Nat.le_of_ble_eq_true rfl, rfl, rfl⟩ (by decide) gE_0 rfl hl.1 rfl (Nat.le_of_ble_eq_true rfl) ⟨Nat.le_of_ble_eq_true rfl, Nat.le_of_ble_eq_true rfl⟩ dX9_visit_6 (fun H locs ce q9 hk hI h1 h2 h3 => ?_) (fun H locs hk hI => ?_)
  · have h := (if_neg hk).symm.trans h
    have h := Option.some.inj h
    subst h
    exact hqx _ _ _ _ _ _ _ _ _ hk (Nat.le_of_ble_eq_true rfl) (Nat.le_of_ble_eq_true rfl) hI h1 h2 h3
  have h := (if_pos hk).symm.trans h
  refine lv_aload_n hx hb dX9_visit_9 rfl (lv_at hl 0 rfl) ?_
  refine g_get F hI (by decide) gE_0 rfl ku_X9 4 (by decide) kf_X9_48 rfl dX9_visit_10 ?_
  refine lv_iload_n hx hb dX9_visit_13 rfl (lv_at hl 1 rfl) ?_
  refine g_callVi (E' := gE a cI σ) (k0 := 5) (As := [.int x1]) (rest := []) F hI (c_X2_length l D a cI F.2.2 σ x1) kb_X2_length ki_X2_length ks_X2_length km_X9_132 ⟨Nat.le_of_ble_eq_true rfl, Nat.le_of_ble_eq_true rfl, rfl, rfl⟩ (by decide) gE_5 rfl hl.1 rfl (Nat.le_of_ble_eq_true rfl) ⟨Nat.le_of_ble_eq_true rfl, Nat.le_of_ble_eq_true rfl⟩ dX9_visit_14 (fun H locs hI => ?_)
  refine lv_bipush (v := 6) hx hb dX9_visit_17 (by decide) ?_
  obtain ⟨j39, hj39, h⟩ := gJoin1_in h
  have J39 : ∀ (w0_39 : Int32) (H : Heap) (locs : List Loc) (ls : Array Slot), j39 w0_39 = some out → g_S 65 D a (gE a cI σ) s.heap H locs → lv_has ls 3 [(0, .ref (a 0)), (1, .int x1), (2, .int x2)] → W p l e rmX9_visit s m args below meth c H locs 2 12 Q (F0 m 39 ls [.int w0_39]) := by
    intro w0_39 H locs ls h hI hl
    rw [hj39] at h
    refine g_callXSv (E' := gE a cI σ) (As := [.int w0_39]) (rest := []) F X hI (c_X9_needState l D a cI F.2.2 hlt sa σ w0_39) kb_X9_needState kt_X9_needState km_X9_111 ⟨Nat.le_of_ble_eq_true rfl, Nat.le_of_ble_eq_true rfl, rfl, rfl⟩ hl.1 rfl (Nat.le_of_ble_eq_true rfl) ⟨Nat.le_of_ble_eq_true rfl, Nat.le_of_ble_eq_true rfl⟩ dX9_visit_39 (fun H locs ce q9 hk hI h1 h2 h3 => ?_) (fun H locs hk hI => ?_)
    · have h := (if_neg hk).symm.trans h
      have h := Option.some.inj h
      subst h
      exact hqx _ _ _ _ _ _ _ _ _ hk (Nat.le_of_ble_eq_true rfl) (Nat.le_of_ble_eq_true rfl) hI h1 h2 h3
    have h := (if_pos hk).symm.trans h
    refine lv_aload_n hx hb dX9_visit_42 rfl (lv_at hl 0 rfl) ?_
    refine g_get F hI (by decide) gE_0 rfl ku_X9 6 (by decide) kf_X9_64 rfl dX9_visit_43 ?_
    refine g_callVi (E' := gE a cI σ) (k0 := 7) (As := []) (rest := []) F hI (c_X3_areDrawn l D a cI F.2.2 σ) kb_X3_areDrawn ki_X3_areDrawn ks_X3_areDrawn km_X9_139 ⟨Nat.le_of_ble_eq_true rfl, Nat.le_of_ble_eq_true rfl, rfl, rfl⟩ (by decide) gE_7 rfl hl.1 rfl (Nat.le_of_ble_eq_true rfl) ⟨Nat.le_of_ble_eq_true rfl, Nat.le_of_ble_eq_true rfl⟩ dX9_visit_46 (fun H locs hI => ?_)
    obtain ⟨j57, hj57, h⟩ := gJoin1_in h
    have J57 : ∀ (w0_57 : Int32) (H : Heap) (locs : List Loc) (ls : Array Slot), j57 w0_57 = some out → g_S 65 D a (gE a cI σ) s.heap H locs → lv_has ls 3 [(0, .ref (a 0)), (1, .int x1), (2, .int x2)] → W p l e rmX9_visit s m args below meth c H locs 3 18 Q (F0 m 57 ls [.int w0_57]) := by
      intro w0_57 H locs ls h hI hl
      rw [hj57] at h
      refine g_callXSv (E' := gE a cI σ) (As := [.int w0_57]) (rest := []) F X hI (c_X9_needState l D a cI F.2.2 hlt sa σ w0_57) kb_X9_needState kt_X9_needState km_X9_111 ⟨Nat.le_of_ble_eq_true rfl, Nat.le_of_ble_eq_true rfl, rfl, rfl⟩ hl.1 rfl (Nat.le_of_ble_eq_true rfl) ⟨Nat.le_of_ble_eq_true rfl, Nat.le_of_ble_eq_true rfl⟩ dX9_visit_57 (fun H locs ce q9 hk hI h1 h2 h3 => ?_) (fun H locs hk hI => ?_)
      · have h := (if_neg hk).symm.trans h
        have h := Option.some.inj h
        subst h
        exact hqx _ _ _ _ _ _ _ _ _ hk (Nat.le_of_ble_eq_true rfl) (Nat.le_of_ble_eq_true rfl) hI h1 h2 h3
      have h := (if_pos hk).symm.trans h
      refine lv_aload_n hx hb dX9_visit_60 rfl (lv_at hl 0 rfl) ?_
      refine g_get F hI (by decide) gE_0 rfl ku_X9 4 (by decide) kf_X9_48 rfl dX9_visit_61 ?_
      refine lv_iload_n hx hb dX9_visit_64 rfl (lv_at hl 1 rfl) ?_
      refine lv_iload_n hx hb dX9_visit_65 rfl (lv_at hl 2 rfl) ?_
      refine g_callVi (E' := gE a cI ((f_X2_append σ x1 x2).2)) (k0 := 5) (As := [.int x1, .int x2]) (rest := []) F hI (c_X2_append l D a cI F.2.2 σ x1 x2) kb_X2_append ki_X2_append ks_X2_append km_X9_143 ⟨Nat.le_of_ble_eq_true rfl, Nat.le_of_ble_eq_true rfl, rfl, rfl⟩ (by decide) gE_5 rfl hl.1 rfl (Nat.le_of_ble_eq_true rfl) ⟨Nat.le_of_ble_eq_true rfl, Nat.le_of_ble_eq_true rfl⟩ dX9_visit_66 (fun H locs hI => ?_)
      have h := Option.some.inj h
      subst h
      exact hq _ _ _ _ _ _ rfl (Nat.le_of_ble_eq_true rfl) (Nat.le_of_ble_eq_true rfl) hI dX9_visit_69
    refine lv_if_ne (tgt := 56) hx hb dX9_visit_49 (by decide) (fun c_49 => ?_) (fun c_49 => ?_)
    · have h := (if_neg c_49).symm.trans h
      refine lv_iconst (v := 0) hx hb dX9_visit_56 (by decide) ?_
      exact J57 _ _ _ _ h hI (lv_sub hl [0, 1, 2] rfl)
    · have h := (if_pos c_49).symm.trans h
      refine lv_iconst (v := 1) hx hb dX9_visit_52 (by decide) ?_
      refine lv_goto (tgt := 57) hx hb dX9_visit_53 (by decide) ?_
      exact J57 _ _ _ _ h hI (lv_sub hl [0, 1, 2] rfl)
  obtain ⟨j38, hj38, h⟩ := gJoin0_in h
  have J38 : ∀ (H : Heap) (locs : List Loc) (ls : Array Slot), j38  = some out → g_S 65 D a (gE a cI σ) s.heap H locs → lv_has ls 3 [(0, .ref (a 0)), (1, .int x1), (2, .int x2)] → W p l e rmX9_visit s m args below meth c H locs 2 12 Q (F0 m 38 ls []) := by
    intro  H locs ls h hI hl
    rw [hj38] at h
    refine lv_iconst (v := 0) hx hb dX9_visit_38 (by decide) ?_
    exact J39 _ _ _ _ h hI (lv_sub hl [0, 1, 2] rfl)
  refine lv_icmp_ge (tgt := 38) hx hb dX9_visit_19 (by decide) (fun c_19 => ?_) (fun c_19 => ?_)
  · have h := (if_pos c_19).symm.trans h
    exact J38 _ _ _ h hI (lv_sub hl [0, 1, 2] rfl)
  · have h := (if_neg c_19).symm.trans h
    refine lv_aload_n hx hb dX9_visit_22 rfl (lv_at hl 0 rfl) ?_
    refine g_get F hI (by decide) gE_0 rfl ku_X9 4 (by decide) kf_X9_48 rfl dX9_visit_23 ?_
    refine lv_iload_n hx hb dX9_visit_26 rfl (lv_at hl 1 rfl) ?_
    refine lv_iload_n hx hb dX9_visit_27 rfl (lv_at hl 2 rfl) ?_
    obtain ⟨r_28, e_28, h⟩ := gBind_in h
    refine g_callVi (E' := gE a cI σ) (k0 := 5) (As := [.int x1, .int x2]) (rest := []) F hI (c_X2_contains l D a cI F.2.2 N σ x1 x2 r_28 e_28) kb_X2_contains ki_X2_contains ks_X2_contains km_X9_135 ⟨Nat.le_of_ble_eq_true rfl, Nat.le_of_ble_eq_true rfl, rfl, rfl⟩ (by decide) gE_5 rfl hl.1 rfl (Nat.le_of_ble_eq_true rfl) ⟨Nat.le_of_ble_eq_true rfl, Nat.le_of_ble_eq_true rfl⟩ dX9_visit_28 (fun H locs hI => ?_)
    refine lv_if_ne (tgt := 38) hx hb dX9_visit_31 (by decide) (fun c_31 => ?_) (fun c_31 => ?_)
    · have h := (if_neg c_31).symm.trans h
      exact J38 _ _ _ h hI (lv_sub hl [0, 1, 2] rfl)
    · have h := (if_pos c_31).symm.trans h
      refine lv_iconst (v := 1) hx hb dX9_visit_34 (by decide) ?_
      refine lv_goto (tgt := 39) hx hb dX9_visit_35 (by decide) ?_
      exact J39 _ _ _ _ h hI (lv_sub hl [0, 1, 2] rfl)
/-- Spurline.arrange(II)I -/
def f_X9_arrange (N : Nat) (σ : gSt) (x1 x2 : Int32) : Option (Nat × Int32 × gSt) :=
  if f_X9_needKlass x1 = 0 then
    if f_X9_needRange x2 0 9999 = 0 then
      gJoin1 (fun (w0_27 : Int32) =>
          if f_X9_needState w0_27 = 0 then
            (f_X4_reorder N σ x1 x2).bind (fun (s_36 : gSt) =>
            (f_X4_measure N s_36 x1).bind (fun (s_44 : gSt) =>
            some (0, f_X4_measuredClimb s_44, s_44)))
          else
            some (f_X9_needState w0_27, 0, σ)) (fun j27 =>
        if f_X3_areDrawn σ = 0 then
          j27 1
        else
          j27 0)
    else
      some (f_X9_needRange x2 0 9999, 0, σ)
  else
    some (f_X9_needKlass x1, 0, σ)
abbrev rmX9_arrange : Room := { frames := 8, cells := 3, slots := 18, locals := 142 }
theorem kb_X9_arrange : g_CB yX9_arrange cX9_arrange 3 (some .int) 2 := ⟨kc_X9_arrange, kn_X9, by decide +kernel⟩
set_option maxRecDepth 100000 in
set_option maxHeartbeats 4000000 in
theorem c_X9_arrange (l : Launch) (D : va_G) (a : Nat → Nat) (cI : ClassId) (hj : g_Inj 65 a) (hlt : l.stackTraces = false) (sa : Nat → Nat) (N : Nat) (σ : gSt) (x1 x2 : Int32) (out : Nat × Int32 × gSt) (hh : f_X9_arrange N σ x1 x2 = some out) : vx_Met l yX9_arrange (Cond.code yX9_arrange cX9_arrange 3 (some .int) :: gW) rmX9_arrange (g_PcX 65 D a (gE a cI σ) [(cI, .int)] sa [.ref (a 0), .int x1, .int x2]) (g_QXi 65 D a (gE a cI out.2.2) out.1 out.2.1) (g_XC 65 D a (gE a cI out.2.2) out.1) 3 18 (g_Own 65 a) := by
  refine g_mxi (by decide) hj hlt rfl (Nat.le_of_ble_eq_true rfl) ?_
  intro p e s m args below meth c Q ls F X hl hI hq hqx
  have hx := F.1.1
  have hb := F.1.2.1
  have hl : lv_has ls 3 [(0, .ref (a 0)), (1, .int x1), (2, .int x2)] := hl
  have h := hh
  unfold f_X9_arrange at h
  refine lv_iload_n hx hb dX9_arrange_0 rfl (lv_at hl 1 rfl) ?_
  refine g_callXSv (E' := gE a cI σ) (As := [.int x1]) (rest := []) F X hI (c_X9_needKlass l D a cI F.2.2 hlt sa σ x1) kb_X9_needKlass kt_X9_needKlass km_X9_125 ⟨Nat.le_of_ble_eq_true rfl, Nat.le_of_ble_eq_true rfl, rfl, rfl⟩ hl.1 rfl (Nat.le_of_ble_eq_true rfl) ⟨Nat.le_of_ble_eq_true rfl, Nat.le_of_ble_eq_true rfl⟩ dX9_arrange_1 (fun H locs ce q9 hk hI h1 h2 h3 => ?_) (fun H locs hk hI => ?_)
  · have h := (if_neg hk).symm.trans h
    have h := Option.some.inj h
    subst h
    exact hqx _ _ _ _ _ _ _ _ _ hk (Nat.le_of_ble_eq_true rfl) (Nat.le_of_ble_eq_true rfl) hI h1 h2 h3
  have h := (if_pos hk).symm.trans h
  refine lv_iload_n hx hb dX9_arrange_4 rfl (lv_at hl 2 rfl) ?_
  refine lv_iconst (v := 0) hx hb dX9_arrange_5 (by decide) ?_
  refine lv_sipush (v := 9999) hx hb dX9_arrange_6 (by decide) ?_
  refine g_callXSv (E' := gE a cI σ) (As := [.int x2, .int 0, .int 9999]) (rest := []) F X hI (c_X9_needRange l D a cI F.2.2 hlt sa σ x2 0 9999) kb_X9_needRange kt_X9_needRange km_X9_89 ⟨Nat.le_of_ble_eq_true rfl, Nat.le_of_ble_eq_true rfl, rfl, rfl⟩ hl.1 rfl (Nat.le_of_ble_eq_true rfl) ⟨Nat.le_of_ble_eq_true rfl, Nat.le_of_ble_eq_true rfl⟩ dX9_arrange_9 (fun H locs ce q9 hk hI h1 h2 h3 => ?_) (fun H locs hk hI => ?_)
  · have h := (if_neg hk).symm.trans h
    have h := Option.some.inj h
    subst h
    exact hqx _ _ _ _ _ _ _ _ _ hk (Nat.le_of_ble_eq_true rfl) (Nat.le_of_ble_eq_true rfl) hI h1 h2 h3
  have h := (if_pos hk).symm.trans h
  refine lv_aload_n hx hb dX9_arrange_12 rfl (lv_at hl 0 rfl) ?_
  refine g_get F hI (by decide) gE_0 rfl ku_X9 6 (by decide) kf_X9_64 rfl dX9_arrange_13 ?_
  refine g_callVi (E' := gE a cI σ) (k0 := 7) (As := []) (rest := []) F hI (c_X3_areDrawn l D a cI F.2.2 σ) kb_X3_areDrawn ki_X3_areDrawn ks_X3_areDrawn km_X9_139 ⟨Nat.le_of_ble_eq_true rfl, Nat.le_of_ble_eq_true rfl, rfl, rfl⟩ (by decide) gE_7 rfl hl.1 rfl (Nat.le_of_ble_eq_true rfl) ⟨Nat.le_of_ble_eq_true rfl, Nat.le_of_ble_eq_true rfl⟩ dX9_arrange_16 (fun H locs hI => ?_)
  obtain ⟨j27, hj27, h⟩ := gJoin1_in h
  have J27 : ∀ (w0_27 : Int32) (H : Heap) (locs : List Loc) (ls : Array Slot), j27 w0_27 = some out → g_S 65 D a (gE a cI σ) s.heap H locs → lv_has ls 3 [(0, .ref (a 0)), (1, .int x1), (2, .int x2)] → W p l e rmX9_arrange s m args below meth c H locs 2 12 Q (F0 m 27 ls [.int w0_27]) := by
    intro w0_27 H locs ls h hI hl
    rw [hj27] at h
    refine g_callXSv (E' := gE a cI σ) (As := [.int w0_27]) (rest := []) F X hI (c_X9_needState l D a cI F.2.2 hlt sa σ w0_27) kb_X9_needState kt_X9_needState km_X9_111 ⟨Nat.le_of_ble_eq_true rfl, Nat.le_of_ble_eq_true rfl, rfl, rfl⟩ hl.1 rfl (Nat.le_of_ble_eq_true rfl) ⟨Nat.le_of_ble_eq_true rfl, Nat.le_of_ble_eq_true rfl⟩ dX9_arrange_27 (fun H locs ce q9 hk hI h1 h2 h3 => ?_) (fun H locs hk hI => ?_)
    · have h := (if_neg hk).symm.trans h
      have h := Option.some.inj h
      subst h
      exact hqx _ _ _ _ _ _ _ _ _ hk (Nat.le_of_ble_eq_true rfl) (Nat.le_of_ble_eq_true rfl) hI h1 h2 h3
    have h := (if_pos hk).symm.trans h
    refine lv_aload_n hx hb dX9_arrange_30 rfl (lv_at hl 0 rfl) ?_
    refine g_get F hI (by decide) gE_0 rfl ku_X9 5 (by decide) kf_X9_57 rfl dX9_arrange_31 ?_
    refine lv_iload_n hx hb dX9_arrange_34 rfl (lv_at hl 1 rfl) ?_
    refine lv_iload_n hx hb dX9_arrange_35 rfl (lv_at hl 2 rfl) ?_
    obtain ⟨s_36, e_36, h⟩ := gBind_in h
    refine g_callVv (E' := gE a cI s_36) (k0 := 6) (As := [.int x1, .int x2]) (rest := []) F hI (c_X4_reorder l D a cI F.2.2 N σ x1 x2 s_36 e_36) kb_X4_reorder ki_X4_reorder ks_X4_reorder km_X9_146 ⟨Nat.le_of_ble_eq_true rfl, Nat.le_of_ble_eq_true rfl, rfl, rfl⟩ (by decide) gE_6 rfl hl.1 rfl (Nat.le_of_ble_eq_true rfl) ⟨Nat.le_of_ble_eq_true rfl, Nat.le_of_ble_eq_true rfl⟩ dX9_arrange_36 (fun H locs hI => ?_)
    refine lv_aload_n hx hb dX9_arrange_39 rfl (lv_at hl 0 rfl) ?_
    refine g_get F hI (by decide) gE_0 rfl ku_X9 5 (by decide) kf_X9_57 rfl dX9_arrange_40 ?_
    refine lv_iload_n hx hb dX9_arrange_43 rfl (lv_at hl 1 rfl) ?_
    obtain ⟨s_44, e_44, h⟩ := gBind_in h
    refine g_callVv (E' := gE a cI s_44) (k0 := 6) (As := [.int x1]) (rest := []) F hI (c_X4_measure l D a cI F.2.2 N s_36 x1 s_44 e_44) kb_X4_measure ki_X4_measure ks_X4_measure km_X9_149 ⟨Nat.le_of_ble_eq_true rfl, Nat.le_of_ble_eq_true rfl, rfl, rfl⟩ (by decide) gE_6 rfl hl.1 rfl (Nat.le_of_ble_eq_true rfl) ⟨Nat.le_of_ble_eq_true rfl, Nat.le_of_ble_eq_true rfl⟩ dX9_arrange_44 (fun H locs hI => ?_)
    refine lv_aload_n hx hb dX9_arrange_47 rfl (lv_at hl 0 rfl) ?_
    refine g_get F hI (by decide) gE_0 rfl ku_X9 5 (by decide) kf_X9_57 rfl dX9_arrange_48 ?_
    refine g_callVi (E' := gE a cI s_44) (k0 := 6) (As := []) (rest := []) F hI (c_X4_measuredClimb l D a cI F.2.2 s_44) kb_X4_measuredClimb ki_X4_measuredClimb ks_X4_measuredClimb km_X9_152 ⟨Nat.le_of_ble_eq_true rfl, Nat.le_of_ble_eq_true rfl, rfl, rfl⟩ (by decide) gE_6 rfl hl.1 rfl (Nat.le_of_ble_eq_true rfl) ⟨Nat.le_of_ble_eq_true rfl, Nat.le_of_ble_eq_true rfl⟩ dX9_arrange_51 (fun H locs hI => ?_)
    have h := Option.some.inj h
    subst h
    exact hq _ _ _ _ _ _ rfl (Nat.le_of_ble_eq_true rfl) (Nat.le_of_ble_eq_true rfl) hI dX9_arrange_54
  refine lv_if_ne (tgt := 26) hx hb dX9_arrange_19 (by decide) (fun c_19 => ?_) (fun c_19 => ?_)
  · have h := (if_neg c_19).symm.trans h
    refine lv_iconst (v := 0) hx hb dX9_arrange_26 (by decide) ?_
    exact J27 _ _ _ _ h hI (lv_sub hl [0, 1, 2] rfl)
  · have h := (if_pos c_19).symm.trans h
    refine lv_iconst (v := 1) hx hb dX9_arrange_22 (by decide) ?_
    refine lv_goto (tgt := 27) hx hb dX9_arrange_23 (by decide) ?_
    exact J27 _ _ _ _ h hI (lv_sub hl [0, 1, 2] rfl)
/-- Spurline.enter(II)I -/
def f_X9_enter (σ : gSt) (x1 x2 : Int32) : Nat × Int32 × gSt :=
  if f_X9_needKlass x1 = 0 then
    if f_X9_needRange x2 0 7 = 0 then
      gJoin1 (fun (w0_38 : Int32) =>
          if f_X9_needState w0_38 = 0 then
            gJoin1 (fun (w0_58 : Int32) =>
                if f_X9_needState w0_58 = 0 then
                  (0, (f_X3_add σ x1 x2).1, (f_X3_add σ x1 x2).2)
                else
                  (f_X9_needState w0_58, 0, σ)) (fun j58 =>
              if f_X2_length σ x1 < 2 then
                j58 0
              else
                j58 1)
          else
            (f_X9_needState w0_38, 0, σ)) (fun j38 =>
      gJoin0 (
          j38 0) (fun j37 =>
        if 24 ≤ f_X3_count σ then
          j37
        else
          if f_X3_areDrawn σ = 0 then
            j38 1
          else
            j37))
    else
      (f_X9_needRange x2 0 7, 0, σ)
  else
    (f_X9_needKlass x1, 0, σ)
abbrev rmX9_enter : Room := { frames := 8, cells := 4, slots := 24, locals := 123 }
theorem kb_X9_enter : g_CB yX9_enter cX9_enter 3 (some .int) 2 := ⟨kc_X9_enter, kn_X9, by decide +kernel⟩
set_option maxRecDepth 100000 in
set_option maxHeartbeats 4000000 in
theorem c_X9_enter (l : Launch) (D : va_G) (a : Nat → Nat) (cI : ClassId) (hj : g_Inj 65 a) (hlt : l.stackTraces = false) (sa : Nat → Nat) (σ : gSt) (x1 x2 : Int32) : vx_Met l yX9_enter (Cond.code yX9_enter cX9_enter 3 (some .int) :: gW) rmX9_enter (g_PcX 65 D a (gE a cI σ) [(cI, .int)] sa [.ref (a 0), .int x1, .int x2]) (g_QXi 65 D a (gE a cI (f_X9_enter σ x1 x2).2.2) (f_X9_enter σ x1 x2).1 (f_X9_enter σ x1 x2).2.1) (g_XC 65 D a (gE a cI (f_X9_enter σ x1 x2).2.2) (f_X9_enter σ x1 x2).1) 4 24 (g_Own 65 a) := by
  generalize hh : f_X9_enter σ x1 x2 = out
  refine g_mxi (by decide) hj hlt rfl (Nat.le_of_ble_eq_true rfl) ?_
  intro p e s m args below meth c Q ls F X hl hI hq hqx
  have hx := F.1.1
  have hb := F.1.2.1
  have hl : lv_has ls 3 [(0, .ref (a 0)), (1, .int x1), (2, .int x2)] := hl
  have h := hh
  unfold f_X9_enter at h
  refine lv_iload_n hx hb dX9_enter_0 rfl (lv_at hl 1 rfl) ?_
  refine g_callXSv (E' := gE a cI σ) (As := [.int x1]) (rest := []) F X hI (c_X9_needKlass l D a cI F.2.2 hlt sa σ x1) kb_X9_needKlass kt_X9_needKlass km_X9_125 ⟨Nat.le_of_ble_eq_true rfl, Nat.le_of_ble_eq_true rfl, rfl, rfl⟩ hl.1 rfl (Nat.le_of_ble_eq_true rfl) ⟨Nat.le_of_ble_eq_true rfl, Nat.le_of_ble_eq_true rfl⟩ dX9_enter_1 (fun H locs ce q9 hk hI h1 h2 h3 => ?_) (fun H locs hk hI => ?_)
  · have h := (if_neg hk).symm.trans h
    subst h
    exact hqx _ _ _ _ _ _ _ _ _ hk (Nat.le_of_ble_eq_true rfl) (Nat.le_of_ble_eq_true rfl) hI h1 h2 h3
  have h := (if_pos hk).symm.trans h
  refine lv_iload_n hx hb dX9_enter_4 rfl (lv_at hl 2 rfl) ?_
  refine lv_iconst (v := 0) hx hb dX9_enter_5 (by decide) ?_
  refine lv_bipush (v := 7) hx hb dX9_enter_6 (by decide) ?_
  refine g_callXSv (E' := gE a cI σ) (As := [.int x2, .int 0, .int 7]) (rest := []) F X hI (c_X9_needRange l D a cI F.2.2 hlt sa σ x2 0 7) kb_X9_needRange kt_X9_needRange km_X9_89 ⟨Nat.le_of_ble_eq_true rfl, Nat.le_of_ble_eq_true rfl, rfl, rfl⟩ hl.1 rfl (Nat.le_of_ble_eq_true rfl) ⟨Nat.le_of_ble_eq_true rfl, Nat.le_of_ble_eq_true rfl⟩ dX9_enter_8 (fun H locs ce q9 hk hI h1 h2 h3 => ?_) (fun H locs hk hI => ?_)
  · have h := (if_neg hk).symm.trans h
    subst h
    exact hqx _ _ _ _ _ _ _ _ _ hk (Nat.le_of_ble_eq_true rfl) (Nat.le_of_ble_eq_true rfl) hI h1 h2 h3
  have h := (if_pos hk).symm.trans h
  refine lv_aload_n hx hb dX9_enter_11 rfl (lv_at hl 0 rfl) ?_
  refine g_get F hI (by decide) gE_0 rfl ku_X9 6 (by decide) kf_X9_64 rfl dX9_enter_12 ?_
  refine g_callVi (E' := gE a cI σ) (k0 := 7) (As := []) (rest := []) F hI (c_X3_count l D a cI F.2.2 σ) kb_X3_count ki_X3_count ks_X3_count km_X9_155 ⟨Nat.le_of_ble_eq_true rfl, Nat.le_of_ble_eq_true rfl, rfl, rfl⟩ (by decide) gE_7 rfl hl.1 rfl (Nat.le_of_ble_eq_true rfl) ⟨Nat.le_of_ble_eq_true rfl, Nat.le_of_ble_eq_true rfl⟩ dX9_enter_15 (fun H locs hI => ?_)
  refine lv_bipush (v := 24) hx hb dX9_enter_18 (by decide) ?_
  obtain ⟨j38, hj38, h⟩ := gJoin1_in h
  have J38 : ∀ (w0_38 : Int32) (H : Heap) (locs : List Loc) (ls : Array Slot), j38 w0_38 = out → g_S 65 D a (gE a cI σ) s.heap H locs → lv_has ls 3 [(0, .ref (a 0)), (1, .int x1), (2, .int x2)] → W p l e rmX9_enter s m args below meth c H locs 2 12 Q (F0 m 38 ls [.int w0_38]) := by
    intro w0_38 H locs ls h hI hl
    rw [hj38] at h
    refine g_callXSv (E' := gE a cI σ) (As := [.int w0_38]) (rest := []) F X hI (c_X9_needState l D a cI F.2.2 hlt sa σ w0_38) kb_X9_needState kt_X9_needState km_X9_111 ⟨Nat.le_of_ble_eq_true rfl, Nat.le_of_ble_eq_true rfl, rfl, rfl⟩ hl.1 rfl (Nat.le_of_ble_eq_true rfl) ⟨Nat.le_of_ble_eq_true rfl, Nat.le_of_ble_eq_true rfl⟩ dX9_enter_38 (fun H locs ce q9 hk hI h1 h2 h3 => ?_) (fun H locs hk hI => ?_)
    · have h := (if_neg hk).symm.trans h
      subst h
      exact hqx _ _ _ _ _ _ _ _ _ hk (Nat.le_of_ble_eq_true rfl) (Nat.le_of_ble_eq_true rfl) hI h1 h2 h3
    have h := (if_pos hk).symm.trans h
    refine lv_aload_n hx hb dX9_enter_41 rfl (lv_at hl 0 rfl) ?_
    refine g_get F hI (by decide) gE_0 rfl ku_X9 4 (by decide) kf_X9_48 rfl dX9_enter_42 ?_
    refine lv_iload_n hx hb dX9_enter_45 rfl (lv_at hl 1 rfl) ?_
    refine g_callVi (E' := gE a cI σ) (k0 := 5) (As := [.int x1]) (rest := []) F hI (c_X2_length l D a cI F.2.2 σ x1) kb_X2_length ki_X2_length ks_X2_length km_X9_132 ⟨Nat.le_of_ble_eq_true rfl, Nat.le_of_ble_eq_true rfl, rfl, rfl⟩ (by decide) gE_5 rfl hl.1 rfl (Nat.le_of_ble_eq_true rfl) ⟨Nat.le_of_ble_eq_true rfl, Nat.le_of_ble_eq_true rfl⟩ dX9_enter_46 (fun H locs hI => ?_)
    refine lv_iconst (v := 2) hx hb dX9_enter_49 (by decide) ?_
    obtain ⟨j58, hj58, h⟩ := gJoin1_in h
    have J58 : ∀ (w0_58 : Int32) (H : Heap) (locs : List Loc) (ls : Array Slot), j58 w0_58 = out → g_S 65 D a (gE a cI σ) s.heap H locs → lv_has ls 3 [(0, .ref (a 0)), (1, .int x1), (2, .int x2)] → W p l e rmX9_enter s m args below meth c H locs 3 18 Q (F0 m 58 ls [.int w0_58]) := by
      intro w0_58 H locs ls h hI hl
      rw [hj58] at h
      refine g_callXSv (E' := gE a cI σ) (As := [.int w0_58]) (rest := []) F X hI (c_X9_needState l D a cI F.2.2 hlt sa σ w0_58) kb_X9_needState kt_X9_needState km_X9_111 ⟨Nat.le_of_ble_eq_true rfl, Nat.le_of_ble_eq_true rfl, rfl, rfl⟩ hl.1 rfl (Nat.le_of_ble_eq_true rfl) ⟨Nat.le_of_ble_eq_true rfl, Nat.le_of_ble_eq_true rfl⟩ dX9_enter_58 (fun H locs ce q9 hk hI h1 h2 h3 => ?_) (fun H locs hk hI => ?_)
      · have h := (if_neg hk).symm.trans h
        subst h
        exact hqx _ _ _ _ _ _ _ _ _ hk (Nat.le_of_ble_eq_true rfl) (Nat.le_of_ble_eq_true rfl) hI h1 h2 h3
      have h := (if_pos hk).symm.trans h
      refine lv_aload_n hx hb dX9_enter_61 rfl (lv_at hl 0 rfl) ?_
      refine g_get F hI (by decide) gE_0 rfl ku_X9 6 (by decide) kf_X9_64 rfl dX9_enter_62 ?_
      refine lv_iload_n hx hb dX9_enter_65 rfl (lv_at hl 1 rfl) ?_
      refine lv_iload_n hx hb dX9_enter_66 rfl (lv_at hl 2 rfl) ?_
      refine g_callVi (E' := gE a cI ((f_X3_add σ x1 x2).2)) (k0 := 7) (As := [.int x1, .int x2]) (rest := []) F hI (c_X3_add l D a cI F.2.2 σ x1 x2) kb_X3_add ki_X3_add ks_X3_add km_X9_156 ⟨Nat.le_of_ble_eq_true rfl, Nat.le_of_ble_eq_true rfl, rfl, rfl⟩ (by decide) gE_7 rfl hl.1 rfl (Nat.le_of_ble_eq_true rfl) ⟨Nat.le_of_ble_eq_true rfl, Nat.le_of_ble_eq_true rfl⟩ dX9_enter_67 (fun H locs hI => ?_)
      subst h
      exact hq _ _ _ _ _ _ rfl (Nat.le_of_ble_eq_true rfl) (Nat.le_of_ble_eq_true rfl) hI dX9_enter_70
    refine lv_icmp_lt (tgt := 57) hx hb dX9_enter_50 (by decide) (fun c_50 => ?_) (fun c_50 => ?_)
    · have h := (if_pos c_50).symm.trans h
      refine lv_iconst (v := 0) hx hb dX9_enter_57 (by decide) ?_
      exact J58 _ _ _ _ h hI (lv_sub hl [0, 1, 2] rfl)
    · have h := (if_neg c_50).symm.trans h
      refine lv_iconst (v := 1) hx hb dX9_enter_53 (by decide) ?_
      refine lv_goto (tgt := 58) hx hb dX9_enter_54 (by decide) ?_
      exact J58 _ _ _ _ h hI (lv_sub hl [0, 1, 2] rfl)
  obtain ⟨j37, hj37, h⟩ := gJoin0_in h
  have J37 : ∀ (H : Heap) (locs : List Loc) (ls : Array Slot), j37  = out → g_S 65 D a (gE a cI σ) s.heap H locs → lv_has ls 3 [(0, .ref (a 0)), (1, .int x1), (2, .int x2)] → W p l e rmX9_enter s m args below meth c H locs 2 12 Q (F0 m 37 ls []) := by
    intro  H locs ls h hI hl
    rw [hj37] at h
    refine lv_iconst (v := 0) hx hb dX9_enter_37 (by decide) ?_
    exact J38 _ _ _ _ h hI (lv_sub hl [0, 1, 2] rfl)
  refine lv_icmp_ge (tgt := 37) hx hb dX9_enter_20 (by decide) (fun c_20 => ?_) (fun c_20 => ?_)
  · have h := (if_pos c_20).symm.trans h
    exact J37 _ _ _ h hI (lv_sub hl [0, 1, 2] rfl)
  · have h := (if_neg c_20).symm.trans h
    refine lv_aload_n hx hb dX9_enter_23 rfl (lv_at hl 0 rfl) ?_
    refine g_get F hI (by decide) gE_0 rfl ku_X9 6 (by decide) kf_X9_64 rfl dX9_enter_24 ?_
    refine g_callVi (E' := gE a cI σ) (k0 := 7) (As := []) (rest := []) F hI (c_X3_areDrawn l D a cI F.2.2 σ) kb_X3_areDrawn ki_X3_areDrawn ks_X3_areDrawn km_X9_139 ⟨Nat.le_of_ble_eq_true rfl, Nat.le_of_ble_eq_true rfl, rfl, rfl⟩ (by decide) gE_7 rfl hl.1 rfl (Nat.le_of_ble_eq_true rfl) ⟨Nat.le_of_ble_eq_true rfl, Nat.le_of_ble_eq_true rfl⟩ dX9_enter_27 (fun H locs hI => ?_)
    refine lv_if_ne (tgt := 37) hx hb dX9_enter_30 (by decide) (fun c_30 => ?_) (fun c_30 => ?_)
    · have h := (if_neg c_30).symm.trans h
      exact J37 _ _ _ h hI (lv_sub hl [0, 1, 2] rfl)
    · have h := (if_pos c_30).symm.trans h
      refine lv_iconst (v := 1) hx hb dX9_enter_33 (by decide) ?_
      refine lv_goto (tgt := 38) hx hb dX9_enter_34 (by decide) ?_
      exact J38 _ _ _ _ h hI (lv_sub hl [0, 1, 2] rfl)
/-- Spurline.draw(II)I -/
def f_X9_draw (N : Nat) (σ : gSt) (x1 x2 : Int32) : Option (Nat × Int32 × gSt) :=
  if f_X9_needRange x1 0 7874 = 0 then
    if f_X9_needRange x2 1 10 = 0 then
      gJoin1 (fun (w0_40 : Int32) =>
          if f_X9_needState w0_40 = 0 then
            (f_X3_drawStarts N σ x1 x2).bind (fun (q_49 : Int32 × gSt) =>
            some (0, q_49.1, q_49.2))
          else
            some (f_X9_needState w0_40, 0, σ)) (fun j40 =>
      gJoin0 (
          j40 0) (fun j39 =>
        if f_X3_count σ ≤ 0 then
          j39
        else
          if f_X3_areDrawn σ = 0 then
            j40 1
          else
            j39))
    else
      some (f_X9_needRange x2 1 10, 0, σ)
  else
    some (f_X9_needRange x1 0 7874, 0, σ)
abbrev rmX9_draw : Room := { frames := 7, cells := 3, slots := 18, locals := 104 }
theorem kb_X9_draw : g_CB yX9_draw cX9_draw 3 (some .int) 2 := ⟨kc_X9_draw, kn_X9, by decide +kernel⟩
set_option maxRecDepth 100000 in
set_option maxHeartbeats 4000000 in
theorem c_X9_draw (l : Launch) (D : va_G) (a : Nat → Nat) (cI : ClassId) (hj : g_Inj 65 a) (hlt : l.stackTraces = false) (sa : Nat → Nat) (N : Nat) (σ : gSt) (x1 x2 : Int32) (out : Nat × Int32 × gSt) (hh : f_X9_draw N σ x1 x2 = some out) : vx_Met l yX9_draw (Cond.code yX9_draw cX9_draw 3 (some .int) :: gW) rmX9_draw (g_PcX 65 D a (gE a cI σ) [(cI, .int)] sa [.ref (a 0), .int x1, .int x2]) (g_QXi 65 D a (gE a cI out.2.2) out.1 out.2.1) (g_XC 65 D a (gE a cI out.2.2) out.1) 3 18 (g_Own 65 a) := by
  refine g_mxi (by decide) hj hlt rfl (Nat.le_of_ble_eq_true rfl) ?_
  intro p e s m args below meth c Q ls F X hl hI hq hqx
  have hx := F.1.1
  have hb := F.1.2.1
  have hl : lv_has ls 3 [(0, .ref (a 0)), (1, .int x1), (2, .int x2)] := hl
  have h := hh
  unfold f_X9_draw at h
  refine lv_iload_n hx hb dX9_draw_0 rfl (lv_at hl 1 rfl) ?_
  refine lv_iconst (v := 0) hx hb dX9_draw_1 (by decide) ?_
  refine lv_sipush (v := 7874) hx hb dX9_draw_2 (by decide) ?_
  refine g_callXSv (E' := gE a cI σ) (As := [.int x1, .int 0, .int 7874]) (rest := []) F X hI (c_X9_needRange l D a cI F.2.2 hlt sa σ x1 0 7874) kb_X9_needRange kt_X9_needRange km_X9_89 ⟨Nat.le_of_ble_eq_true rfl, Nat.le_of_ble_eq_true rfl, rfl, rfl⟩ hl.1 rfl (Nat.le_of_ble_eq_true rfl) ⟨Nat.le_of_ble_eq_true rfl, Nat.le_of_ble_eq_true rfl⟩ dX9_draw_5 (fun H locs ce q9 hk hI h1 h2 h3 => ?_) (fun H locs hk hI => ?_)
  · have h := (if_neg hk).symm.trans h
    have h := Option.some.inj h
    subst h
    exact hqx _ _ _ _ _ _ _ _ _ hk (Nat.le_of_ble_eq_true rfl) (Nat.le_of_ble_eq_true rfl) hI h1 h2 h3
  have h := (if_pos hk).symm.trans h
  refine lv_iload_n hx hb dX9_draw_8 rfl (lv_at hl 2 rfl) ?_
  refine lv_iconst (v := 1) hx hb dX9_draw_9 (by decide) ?_
  refine lv_bipush (v := 10) hx hb dX9_draw_10 (by decide) ?_
  refine g_callXSv (E' := gE a cI σ) (As := [.int x2, .int 1, .int 10]) (rest := []) F X hI (c_X9_needRange l D a cI F.2.2 hlt sa σ x2 1 10) kb_X9_needRange kt_X9_needRange km_X9_89 ⟨Nat.le_of_ble_eq_true rfl, Nat.le_of_ble_eq_true rfl, rfl, rfl⟩ hl.1 rfl (Nat.le_of_ble_eq_true rfl) ⟨Nat.le_of_ble_eq_true rfl, Nat.le_of_ble_eq_true rfl⟩ dX9_draw_12 (fun H locs ce q9 hk hI h1 h2 h3 => ?_) (fun H locs hk hI => ?_)
  · have h := (if_neg hk).symm.trans h
    have h := Option.some.inj h
    subst h
    exact hqx _ _ _ _ _ _ _ _ _ hk (Nat.le_of_ble_eq_true rfl) (Nat.le_of_ble_eq_true rfl) hI h1 h2 h3
  have h := (if_pos hk).symm.trans h
  refine lv_aload_n hx hb dX9_draw_15 rfl (lv_at hl 0 rfl) ?_
  refine g_get F hI (by decide) gE_0 rfl ku_X9 6 (by decide) kf_X9_64 rfl dX9_draw_16 ?_
  refine g_callVi (E' := gE a cI σ) (k0 := 7) (As := []) (rest := []) F hI (c_X3_count l D a cI F.2.2 σ) kb_X3_count ki_X3_count ks_X3_count km_X9_155 ⟨Nat.le_of_ble_eq_true rfl, Nat.le_of_ble_eq_true rfl, rfl, rfl⟩ (by decide) gE_7 rfl hl.1 rfl (Nat.le_of_ble_eq_true rfl) ⟨Nat.le_of_ble_eq_true rfl, Nat.le_of_ble_eq_true rfl⟩ dX9_draw_19 (fun H locs hI => ?_)
  obtain ⟨j40, hj40, h⟩ := gJoin1_in h
  have J40 : ∀ (w0_40 : Int32) (H : Heap) (locs : List Loc) (ls : Array Slot), j40 w0_40 = some out → g_S 65 D a (gE a cI σ) s.heap H locs → lv_has ls 3 [(0, .ref (a 0)), (1, .int x1), (2, .int x2)] → W p l e rmX9_draw s m args below meth c H locs 2 12 Q (F0 m 40 ls [.int w0_40]) := by
    intro w0_40 H locs ls h hI hl
    rw [hj40] at h
    refine g_callXSv (E' := gE a cI σ) (As := [.int w0_40]) (rest := []) F X hI (c_X9_needState l D a cI F.2.2 hlt sa σ w0_40) kb_X9_needState kt_X9_needState km_X9_111 ⟨Nat.le_of_ble_eq_true rfl, Nat.le_of_ble_eq_true rfl, rfl, rfl⟩ hl.1 rfl (Nat.le_of_ble_eq_true rfl) ⟨Nat.le_of_ble_eq_true rfl, Nat.le_of_ble_eq_true rfl⟩ dX9_draw_40 (fun H locs ce q9 hk hI h1 h2 h3 => ?_) (fun H locs hk hI => ?_)
    · have h := (if_neg hk).symm.trans h
      have h := Option.some.inj h
      subst h
      exact hqx _ _ _ _ _ _ _ _ _ hk (Nat.le_of_ble_eq_true rfl) (Nat.le_of_ble_eq_true rfl) hI h1 h2 h3
    have h := (if_pos hk).symm.trans h
    refine lv_aload_n hx hb dX9_draw_43 rfl (lv_at hl 0 rfl) ?_
    refine g_get F hI (by decide) gE_0 rfl ku_X9 6 (by decide) kf_X9_64 rfl dX9_draw_44 ?_
    refine lv_iload_n hx hb dX9_draw_47 rfl (lv_at hl 1 rfl) ?_
    refine lv_iload_n hx hb dX9_draw_48 rfl (lv_at hl 2 rfl) ?_
    obtain ⟨q_49, e_49, h⟩ := gBind_in h
    refine g_callVi (E' := gE a cI q_49.2) (k0 := 7) (As := [.int x1, .int x2]) (rest := []) F hI (c_X3_drawStarts l D a cI F.2.2 N σ x1 x2 q_49 e_49) kb_X3_drawStarts ki_X3_drawStarts ks_X3_drawStarts km_X9_158 ⟨Nat.le_of_ble_eq_true rfl, Nat.le_of_ble_eq_true rfl, rfl, rfl⟩ (by decide) gE_7 rfl hl.1 rfl (Nat.le_of_ble_eq_true rfl) ⟨Nat.le_of_ble_eq_true rfl, Nat.le_of_ble_eq_true rfl⟩ dX9_draw_49 (fun H locs hI => ?_)
    have h := Option.some.inj h
    subst h
    exact hq _ _ _ _ _ _ rfl (Nat.le_of_ble_eq_true rfl) (Nat.le_of_ble_eq_true rfl) hI dX9_draw_52
  obtain ⟨j39, hj39, h⟩ := gJoin0_in h
  have J39 : ∀ (H : Heap) (locs : List Loc) (ls : Array Slot), j39  = some out → g_S 65 D a (gE a cI σ) s.heap H locs → lv_has ls 3 [(0, .ref (a 0)), (1, .int x1), (2, .int x2)] → W p l e rmX9_draw s m args below meth c H locs 2 12 Q (F0 m 39 ls []) := by
    intro  H locs ls h hI hl
    rw [hj39] at h
    refine lv_iconst (v := 0) hx hb dX9_draw_39 (by decide) ?_
    exact J40 _ _ _ _ h hI (lv_sub hl [0, 1, 2] rfl)
  refine lv_if_le (tgt := 39) hx hb dX9_draw_22 (by decide) (fun c_22 => ?_) (fun c_22 => ?_)
  · have h := (if_pos c_22).symm.trans h
    exact J39 _ _ _ h hI (lv_sub hl [0, 1, 2] rfl)
  · have h := (if_neg c_22).symm.trans h
    refine lv_aload_n hx hb dX9_draw_25 rfl (lv_at hl 0 rfl) ?_
    refine g_get F hI (by decide) gE_0 rfl ku_X9 6 (by decide) kf_X9_64 rfl dX9_draw_26 ?_
    refine g_callVi (E' := gE a cI σ) (k0 := 7) (As := []) (rest := []) F hI (c_X3_areDrawn l D a cI F.2.2 σ) kb_X3_areDrawn ki_X3_areDrawn ks_X3_areDrawn km_X9_139 ⟨Nat.le_of_ble_eq_true rfl, Nat.le_of_ble_eq_true rfl, rfl, rfl⟩ (by decide) gE_7 rfl hl.1 rfl (Nat.le_of_ble_eq_true rfl) ⟨Nat.le_of_ble_eq_true rfl, Nat.le_of_ble_eq_true rfl⟩ dX9_draw_29 (fun H locs hI => ?_)
    refine lv_if_ne (tgt := 39) hx hb dX9_draw_32 (by decide) (fun c_32 => ?_) (fun c_32 => ?_)
    · have h := (if_neg c_32).symm.trans h
      exact J39 _ _ _ h hI (lv_sub hl [0, 1, 2] rfl)
    · have h := (if_pos c_32).symm.trans h
      refine lv_iconst (v := 1) hx hb dX9_draw_35 (by decide) ?_
      refine lv_goto (tgt := 40) hx hb dX9_draw_36 (by decide) ?_
      exact J40 _ _ _ _ h hI (lv_sub hl [0, 1, 2] rfl)
/-- Spurline.needRunner(I)V -/
def f_X9_needRunner (σ : gSt) (x1 : Int32) : Nat :=
  if f_X9_needIndex x1 (f_X3_count σ) = 0 then
    0
  else
    f_X9_needIndex x1 (f_X3_count σ)
abbrev rmX9_needRunner : Room := { frames := 7, cells := 1, slots := 6, locals := 103 }
theorem kb_X9_needRunner : g_CB yX9_needRunner cX9_needRunner 2 none 1 := ⟨kc_X9_needRunner, kn_X9, by decide +kernel⟩
set_option maxRecDepth 100000 in
set_option maxHeartbeats 4000000 in
theorem c_X9_needRunner (l : Launch) (D : va_G) (a : Nat → Nat) (cI : ClassId) (hj : g_Inj 65 a) (hlt : l.stackTraces = false) (sa : Nat → Nat) (σ : gSt) (x1 : Int32) : vx_Met l yX9_needRunner (Cond.code yX9_needRunner cX9_needRunner 2 none :: gW) rmX9_needRunner (g_PcX 65 D a (gE a cI σ) [(cI, .int)] sa [.ref (a 0), .int x1]) (g_QXv 65 D a (gE a cI σ) (f_X9_needRunner σ x1)) (g_XC 65 D a (gE a cI σ) (f_X9_needRunner σ x1)) 1 6 (g_Own 65 a) := by
  generalize hh : f_X9_needRunner σ x1 = out
  refine g_mxv (by decide) hj hlt rfl (Nat.le_of_ble_eq_true rfl) ?_
  intro p e s m args below meth c Q ls F X hl hI hq hqx htr
  have hx := F.1.1
  have hb := F.1.2.1
  have hl : lv_has ls 2 [(0, .ref (a 0)), (1, .int x1)] := hl
  have h := hh
  unfold f_X9_needRunner at h
  refine lv_iload_n hx hb dX9_needRunner_0 rfl (lv_at hl 1 rfl) ?_
  refine lv_aload_n hx hb dX9_needRunner_1 rfl (lv_at hl 0 rfl) ?_
  refine g_get F hI (by decide) gE_0 rfl ku_X9 6 (by decide) kf_X9_64 rfl dX9_needRunner_2 ?_
  refine g_callVi (E' := gE a cI σ) (k0 := 7) (As := []) (rest := [.int x1]) F hI (c_X3_count l D a cI F.2.2 σ) kb_X3_count ki_X3_count ks_X3_count km_X9_155 ⟨Nat.le_of_ble_eq_true rfl, Nat.le_of_ble_eq_true rfl, rfl, rfl⟩ (by decide) gE_7 rfl hl.1 rfl (Nat.le_of_ble_eq_true rfl) ⟨Nat.le_of_ble_eq_true rfl, Nat.le_of_ble_eq_true rfl⟩ dX9_needRunner_5 (fun H locs hI => ?_)
  refine g_callXSv (E' := gE a cI σ) (As := [.int x1, .int (f_X3_count σ)]) (rest := []) F X hI (c_X9_needIndex l D a cI F.2.2 hlt sa σ x1 (f_X3_count σ)) kb_X9_needIndex kt_X9_needIndex km_X9_220 ⟨Nat.le_of_ble_eq_true rfl, Nat.le_of_ble_eq_true rfl, rfl, rfl⟩ hl.1 rfl (Nat.le_of_ble_eq_true rfl) ⟨Nat.le_of_ble_eq_true rfl, Nat.le_of_ble_eq_true rfl⟩ dX9_needRunner_8 (fun H locs ce q9 hk hI h1 h2 h3 => ?_) (fun H locs hk hI => ?_)
  · have h := (if_neg hk).symm.trans h
    subst h
    exact hqx _ _ _ _ _ _ _ _ _ hk (Nat.le_of_ble_eq_true rfl) (Nat.le_of_ble_eq_true rfl) hI h1 h2 h3
  have h := (if_pos hk).symm.trans h
  subst h
  exact hq _ _ _ _ _ _ rfl (Nat.le_of_ble_eq_true rfl) (Nat.le_of_ble_eq_true rfl) hI dX9_needRunner_11
/-- Spurline.punch(III)I -/
def f_X9_punch (N : Nat) (σ : gSt) (x1 x2 x3 : Int32) : Option (Nat × Int32 × gSt) :=
  if f_X9_needRunner σ x1 = 0 then
    if f_X9_needControl σ x2 = 0 then
      gJoin1 (fun (w0_38 : Int32) =>
          if f_X9_needState w0_38 = 0 then
            if f_X9_needRange x3 (f_X3_earliestPunch σ x1) 9999 = 0 then
              (f_X5_reckon N (f_X3_addPunch σ x1 x2 x3)).bind (fun (s_70 : gSt) =>
              some (0, f_X5_countedPunches s_70 x1, s_70))
            else
              some (f_X9_needRange x3 (f_X3_earliestPunch σ x1) 9999, 0, σ)
          else
            some (f_X9_needState w0_38, 0, σ)) (fun j38 =>
      gJoin0 (
          j38 0) (fun j37 =>
        if f_X3_areDrawn σ = 0 then
          j37
        else
          if 20 ≤ f_X3_punchCount σ x1 then
            j37
          else
            j38 1))
    else
      some (f_X9_needControl σ x2, 0, σ)
  else
    some (f_X9_needRunner σ x1, 0, σ)
abbrev rmX9_punch : Room := { frames := 8, cells := 4, slots := 24, locals := 124 }
theorem kb_X9_punch : g_CB yX9_punch cX9_punch 4 (some .int) 3 := ⟨kc_X9_punch, kn_X9, by decide +kernel⟩
set_option maxRecDepth 100000 in
set_option maxHeartbeats 4000000 in
theorem c_X9_punch (l : Launch) (D : va_G) (a : Nat → Nat) (cI : ClassId) (hj : g_Inj 65 a) (hlt : l.stackTraces = false) (sa : Nat → Nat) (N : Nat) (σ : gSt) (x1 x2 x3 : Int32) (out : Nat × Int32 × gSt) (hh : f_X9_punch N σ x1 x2 x3 = some out) : vx_Met l yX9_punch (Cond.code yX9_punch cX9_punch 4 (some .int) :: gW) rmX9_punch (g_PcX 65 D a (gE a cI σ) [(cI, .int)] sa [.ref (a 0), .int x1, .int x2, .int x3]) (g_QXi 65 D a (gE a cI out.2.2) out.1 out.2.1) (g_XC 65 D a (gE a cI out.2.2) out.1) 4 24 (g_Own 65 a) := by
  refine g_mxi (by decide) hj hlt rfl (Nat.le_of_ble_eq_true rfl) ?_
  intro p e s m args below meth c Q ls F X hl hI hq hqx
  have hx := F.1.1
  have hb := F.1.2.1
  have hl : lv_has ls 4 [(0, .ref (a 0)), (1, .int x1), (2, .int x2), (3, .int x3)] := hl
  have h := hh
  unfold f_X9_punch at h
  refine lv_aload_n hx hb dX9_punch_0 rfl (lv_at hl 0 rfl) ?_
  refine lv_iload_n hx hb dX9_punch_1 rfl (lv_at hl 1 rfl) ?_
  refine g_callXVv (E' := gE a cI σ) (k0 := 0) (As := [.int x1]) (rest := []) F X hI (c_X9_needRunner l D a cI F.2.2 hlt sa σ x1) kb_X9_needRunner ki_X9_needRunner ks_X9_needRunner km_X9_161 ⟨Nat.le_of_ble_eq_true rfl, Nat.le_of_ble_eq_true rfl, rfl, rfl⟩ (by decide) gE_0 rfl hl.1 rfl (Nat.le_of_ble_eq_true rfl) ⟨Nat.le_of_ble_eq_true rfl, Nat.le_of_ble_eq_true rfl⟩ dX9_punch_2 (fun H locs ce q9 hk hI h1 h2 h3 => ?_) (fun H locs hk hI => ?_)
  · have h := (if_neg hk).symm.trans h
    have h := Option.some.inj h
    subst h
    exact hqx _ _ _ _ _ _ _ _ _ hk (Nat.le_of_ble_eq_true rfl) (Nat.le_of_ble_eq_true rfl) hI h1 h2 h3
  have h := (if_pos hk).symm.trans h
  refine lv_aload_n hx hb dX9_punch_5 rfl (lv_at hl 0 rfl) ?_
  refine lv_iload_n hx hb dX9_punch_6 rfl (lv_at hl 2 rfl) ?_
  refine g_callXVv (E' := gE a cI σ) (k0 := 0) (As := [.int x2]) (rest := []) F X hI (c_X9_needControl l D a cI F.2.2 hlt sa σ x2) kb_X9_needControl ki_X9_needControl ks_X9_needControl km_X9_129 ⟨Nat.le_of_ble_eq_true rfl, Nat.le_of_ble_eq_true rfl, rfl, rfl⟩ (by decide) gE_0 rfl hl.1 rfl (Nat.le_of_ble_eq_true rfl) ⟨Nat.le_of_ble_eq_true rfl, Nat.le_of_ble_eq_true rfl⟩ dX9_punch_7 (fun H locs ce q9 hk hI h1 h2 h3 => ?_) (fun H locs hk hI => ?_)
  · have h := (if_neg hk).symm.trans h
    have h := Option.some.inj h
    subst h
    exact hqx _ _ _ _ _ _ _ _ _ hk (Nat.le_of_ble_eq_true rfl) (Nat.le_of_ble_eq_true rfl) hI h1 h2 h3
  have h := (if_pos hk).symm.trans h
  refine lv_aload_n hx hb dX9_punch_10 rfl (lv_at hl 0 rfl) ?_
  refine g_get F hI (by decide) gE_0 rfl ku_X9 6 (by decide) kf_X9_64 rfl dX9_punch_11 ?_
  refine g_callVi (E' := gE a cI σ) (k0 := 7) (As := []) (rest := []) F hI (c_X3_areDrawn l D a cI F.2.2 σ) kb_X3_areDrawn ki_X3_areDrawn ks_X3_areDrawn km_X9_139 ⟨Nat.le_of_ble_eq_true rfl, Nat.le_of_ble_eq_true rfl, rfl, rfl⟩ (by decide) gE_7 rfl hl.1 rfl (Nat.le_of_ble_eq_true rfl) ⟨Nat.le_of_ble_eq_true rfl, Nat.le_of_ble_eq_true rfl⟩ dX9_punch_14 (fun H locs hI => ?_)
  obtain ⟨j38, hj38, h⟩ := gJoin1_in h
  have J38 : ∀ (w0_38 : Int32) (H : Heap) (locs : List Loc) (ls : Array Slot), j38 w0_38 = some out → g_S 65 D a (gE a cI σ) s.heap H locs → lv_has ls 4 [(0, .ref (a 0)), (1, .int x1), (2, .int x2), (3, .int x3)] → W p l e rmX9_punch s m args below meth c H locs 2 12 Q (F0 m 38 ls [.int w0_38]) := by
    intro w0_38 H locs ls h hI hl
    rw [hj38] at h
    refine g_callXSv (E' := gE a cI σ) (As := [.int w0_38]) (rest := []) F X hI (c_X9_needState l D a cI F.2.2 hlt sa σ w0_38) kb_X9_needState kt_X9_needState km_X9_111 ⟨Nat.le_of_ble_eq_true rfl, Nat.le_of_ble_eq_true rfl, rfl, rfl⟩ hl.1 rfl (Nat.le_of_ble_eq_true rfl) ⟨Nat.le_of_ble_eq_true rfl, Nat.le_of_ble_eq_true rfl⟩ dX9_punch_38 (fun H locs ce q9 hk hI h1 h2 h3 => ?_) (fun H locs hk hI => ?_)
    · have h := (if_neg hk).symm.trans h
      have h := Option.some.inj h
      subst h
      exact hqx _ _ _ _ _ _ _ _ _ hk (Nat.le_of_ble_eq_true rfl) (Nat.le_of_ble_eq_true rfl) hI h1 h2 h3
    have h := (if_pos hk).symm.trans h
    refine lv_iload_n hx hb dX9_punch_41 rfl (lv_at hl 3 rfl) ?_
    refine lv_aload_n hx hb dX9_punch_42 rfl (lv_at hl 0 rfl) ?_
    refine g_get F hI (by decide) gE_0 rfl ku_X9 6 (by decide) kf_X9_64 rfl dX9_punch_43 ?_
    refine lv_iload_n hx hb dX9_punch_46 rfl (lv_at hl 1 rfl) ?_
    refine g_callVi (E' := gE a cI σ) (k0 := 7) (As := [.int x1]) (rest := [.int x3]) F hI (c_X3_earliestPunch l D a cI F.2.2 σ x1) kb_X3_earliestPunch ki_X3_earliestPunch ks_X3_earliestPunch km_X9_167 ⟨Nat.le_of_ble_eq_true rfl, Nat.le_of_ble_eq_true rfl, rfl, rfl⟩ (by decide) gE_7 rfl hl.1 rfl (Nat.le_of_ble_eq_true rfl) ⟨Nat.le_of_ble_eq_true rfl, Nat.le_of_ble_eq_true rfl⟩ dX9_punch_47 (fun H locs hI => ?_)
    refine lv_sipush (v := 9999) hx hb dX9_punch_50 (by decide) ?_
    refine g_callXSv (E' := gE a cI σ) (As := [.int x3, .int (f_X3_earliestPunch σ x1), .int 9999]) (rest := []) F X hI (c_X9_needRange l D a cI F.2.2 hlt sa σ x3 (f_X3_earliestPunch σ x1) 9999) kb_X9_needRange kt_X9_needRange km_X9_89 ⟨Nat.le_of_ble_eq_true rfl, Nat.le_of_ble_eq_true rfl, rfl, rfl⟩ hl.1 rfl (Nat.le_of_ble_eq_true rfl) ⟨Nat.le_of_ble_eq_true rfl, Nat.le_of_ble_eq_true rfl⟩ dX9_punch_53 (fun H locs ce q9 hk hI h1 h2 h3 => ?_) (fun H locs hk hI => ?_)
    · have h := (if_neg hk).symm.trans h
      have h := Option.some.inj h
      subst h
      exact hqx _ _ _ _ _ _ _ _ _ hk (Nat.le_of_ble_eq_true rfl) (Nat.le_of_ble_eq_true rfl) hI h1 h2 h3
    have h := (if_pos hk).symm.trans h
    refine lv_aload_n hx hb dX9_punch_56 rfl (lv_at hl 0 rfl) ?_
    refine g_get F hI (by decide) gE_0 rfl ku_X9 6 (by decide) kf_X9_64 rfl dX9_punch_57 ?_
    refine lv_iload_n hx hb dX9_punch_60 rfl (lv_at hl 1 rfl) ?_
    refine lv_iload_n hx hb dX9_punch_61 rfl (lv_at hl 2 rfl) ?_
    refine lv_iload_n hx hb dX9_punch_62 rfl (lv_at hl 3 rfl) ?_
    refine g_callVv (E' := gE a cI (f_X3_addPunch σ x1 x2 x3)) (k0 := 7) (As := [.int x1, .int x2, .int x3]) (rest := []) F hI (c_X3_addPunch l D a cI F.2.2 σ x1 x2 x3) kb_X3_addPunch ki_X3_addPunch ks_X3_addPunch km_X9_170 ⟨Nat.le_of_ble_eq_true rfl, Nat.le_of_ble_eq_true rfl, rfl, rfl⟩ (by decide) gE_7 rfl hl.1 rfl (Nat.le_of_ble_eq_true rfl) ⟨Nat.le_of_ble_eq_true rfl, Nat.le_of_ble_eq_true rfl⟩ dX9_punch_63 (fun H locs hI => ?_)
    refine lv_aload_n hx hb dX9_punch_66 rfl (lv_at hl 0 rfl) ?_
    refine g_get F hI (by decide) gE_0 rfl ku_X9 7 (by decide) kf_X9_73 rfl dX9_punch_67 ?_
    obtain ⟨s_70, e_70, h⟩ := gBind_in h
    refine g_callVv (E' := gE a cI s_70) (k0 := 8) (As := []) (rest := []) F hI (c_X5_reckon l D a cI F.2.2 N (f_X3_addPunch σ x1 x2 x3) s_70 e_70) kb_X5_reckon ki_X5_reckon ks_X5_reckon km_X9_173 ⟨Nat.le_of_ble_eq_true rfl, Nat.le_of_ble_eq_true rfl, rfl, rfl⟩ (by decide) gE_8 rfl hl.1 rfl (Nat.le_of_ble_eq_true rfl) ⟨Nat.le_of_ble_eq_true rfl, Nat.le_of_ble_eq_true rfl⟩ dX9_punch_70 (fun H locs hI => ?_)
    refine lv_aload_n hx hb dX9_punch_73 rfl (lv_at hl 0 rfl) ?_
    refine g_get F hI (by decide) gE_0 rfl ku_X9 7 (by decide) kf_X9_73 rfl dX9_punch_74 ?_
    refine lv_iload_n hx hb dX9_punch_77 rfl (lv_at hl 1 rfl) ?_
    refine g_callVi (E' := gE a cI s_70) (k0 := 8) (As := [.int x1]) (rest := []) F hI (c_X5_countedPunches l D a cI F.2.2 s_70 x1) kb_X5_countedPunches ki_X5_countedPunches ks_X5_countedPunches km_X9_176 ⟨Nat.le_of_ble_eq_true rfl, Nat.le_of_ble_eq_true rfl, rfl, rfl⟩ (by decide) gE_8 rfl hl.1 rfl (Nat.le_of_ble_eq_true rfl) ⟨Nat.le_of_ble_eq_true rfl, Nat.le_of_ble_eq_true rfl⟩ dX9_punch_78 (fun H locs hI => ?_)
    have h := Option.some.inj h
    subst h
    exact hq _ _ _ _ _ _ rfl (Nat.le_of_ble_eq_true rfl) (Nat.le_of_ble_eq_true rfl) hI dX9_punch_81
  obtain ⟨j37, hj37, h⟩ := gJoin0_in h
  have J37 : ∀ (H : Heap) (locs : List Loc) (ls : Array Slot), j37  = some out → g_S 65 D a (gE a cI σ) s.heap H locs → lv_has ls 4 [(0, .ref (a 0)), (1, .int x1), (2, .int x2), (3, .int x3)] → W p l e rmX9_punch s m args below meth c H locs 2 12 Q (F0 m 37 ls []) := by
    intro  H locs ls h hI hl
    rw [hj37] at h
    refine lv_iconst (v := 0) hx hb dX9_punch_37 (by decide) ?_
    exact J38 _ _ _ _ h hI (lv_sub hl [0, 1, 2, 3] rfl)
  refine lv_if_eq (tgt := 37) hx hb dX9_punch_17 (by decide) (fun c_17 => ?_) (fun c_17 => ?_)
  · have h := (if_pos c_17).symm.trans h
    exact J37 _ _ _ h hI (lv_sub hl [0, 1, 2, 3] rfl)
  · have h := (if_neg c_17).symm.trans h
    refine lv_aload_n hx hb dX9_punch_20 rfl (lv_at hl 0 rfl) ?_
    refine g_get F hI (by decide) gE_0 rfl ku_X9 6 (by decide) kf_X9_64 rfl dX9_punch_21 ?_
    refine lv_iload_n hx hb dX9_punch_24 rfl (lv_at hl 1 rfl) ?_
    refine g_callVi (E' := gE a cI σ) (k0 := 7) (As := [.int x1]) (rest := []) F hI (c_X3_punchCount l D a cI F.2.2 σ x1) kb_X3_punchCount ki_X3_punchCount ks_X3_punchCount km_X9_164 ⟨Nat.le_of_ble_eq_true rfl, Nat.le_of_ble_eq_true rfl, rfl, rfl⟩ (by decide) gE_7 rfl hl.1 rfl (Nat.le_of_ble_eq_true rfl) ⟨Nat.le_of_ble_eq_true rfl, Nat.le_of_ble_eq_true rfl⟩ dX9_punch_25 (fun H locs hI => ?_)
    refine lv_bipush (v := 20) hx hb dX9_punch_28 (by decide) ?_
    refine lv_icmp_ge (tgt := 37) hx hb dX9_punch_30 (by decide) (fun c_30 => ?_) (fun c_30 => ?_)
    · have h := (if_pos c_30).symm.trans h
      exact J37 _ _ _ h hI (lv_sub hl [0, 1, 2, 3] rfl)
    · have h := (if_neg c_30).symm.trans h
      refine lv_iconst (v := 1) hx hb dX9_punch_33 (by decide) ?_
      refine lv_goto (tgt := 38) hx hb dX9_punch_34 (by decide) ?_
      exact J38 _ _ _ _ h hI (lv_sub hl [0, 1, 2, 3] rfl)
/-- Spurline.fail(IZ)Z -/
def f_X9_fail (N : Nat) (σ : gSt) (x1 x2 : Int32) : Option (Nat × Int32 × gSt) :=
  if f_X9_needControl σ x1 = 0 then
    (f_X2_beginsOrEndsOne N σ x1).bind (fun (r_10 : Int32) =>
    gJoin1 (fun (w0_21 : Int32) =>
        if f_X9_needState w0_21 = 0 then
          some (0, ((f_X1_replaceFailed σ x1 x2).1) &&& 1, (f_X1_replaceFailed σ x1 x2).2)
        else
          some (f_X9_needState w0_21, 0, σ)) (fun j21 =>
      if r_10 = 0 then
        j21 1
      else
        j21 0))
  else
    some (f_X9_needControl σ x1, 0, σ)
abbrev rmX9_fail : Room := { frames := 8, cells := 2, slots := 12, locals := 124 }
theorem kb_X9_fail : g_CB yX9_fail cX9_fail 3 (some .boolean) 2 := ⟨kc_X9_fail, kn_X9, by decide +kernel⟩
set_option maxRecDepth 100000 in
set_option maxHeartbeats 4000000 in
theorem c_X9_fail (l : Launch) (D : va_G) (a : Nat → Nat) (cI : ClassId) (hj : g_Inj 65 a) (hlt : l.stackTraces = false) (sa : Nat → Nat) (N : Nat) (σ : gSt) (x1 x2 : Int32) (out : Nat × Int32 × gSt) (hh : f_X9_fail N σ x1 x2 = some out) : vx_Met l yX9_fail (Cond.code yX9_fail cX9_fail 3 (some .boolean) :: gW) rmX9_fail (g_PcX 65 D a (gE a cI σ) [(cI, .int)] sa [.ref (a 0), .int x1, .int x2]) (g_QXi 65 D a (gE a cI out.2.2) out.1 out.2.1) (g_XC 65 D a (gE a cI out.2.2) out.1) 2 12 (g_Own 65 a) := by
  refine g_mxz (by decide) hj hlt rfl (Nat.le_of_ble_eq_true rfl) ?_
  intro p e s m args below meth c Q ls F X hl hI hq hqx
  have hx := F.1.1
  have hb := F.1.2.1
  have hl : lv_has ls 3 [(0, .ref (a 0)), (1, .int x1), (2, .int x2)] := hl
  have h := hh
  unfold f_X9_fail at h
  refine lv_aload_n hx hb dX9_fail_0 rfl (lv_at hl 0 rfl) ?_
  refine lv_iload_n hx hb dX9_fail_1 rfl (lv_at hl 1 rfl) ?_
  refine g_callXVv (E' := gE a cI σ) (k0 := 0) (As := [.int x1]) (rest := []) F X hI (c_X9_needControl l D a cI F.2.2 hlt sa σ x1) kb_X9_needControl ki_X9_needControl ks_X9_needControl km_X9_129 ⟨Nat.le_of_ble_eq_true rfl, Nat.le_of_ble_eq_true rfl, rfl, rfl⟩ (by decide) gE_0 rfl hl.1 rfl (Nat.le_of_ble_eq_true rfl) ⟨Nat.le_of_ble_eq_true rfl, Nat.le_of_ble_eq_true rfl⟩ dX9_fail_2 (fun H locs ce q9 hk hI h1 h2 h3 => ?_) (fun H locs hk hI => ?_)
  · have h := (if_neg hk).symm.trans h
    have h := Option.some.inj h
    subst h
    exact hqx _ _ _ _ _ _ _ _ _ hk (Nat.le_of_ble_eq_true rfl) (Nat.le_of_ble_eq_true rfl) hI h1 h2 h3
  have h := (if_pos hk).symm.trans h
  refine lv_aload_n hx hb dX9_fail_5 rfl (lv_at hl 0 rfl) ?_
  refine g_get F hI (by decide) gE_0 rfl ku_X9 4 (by decide) kf_X9_48 rfl dX9_fail_6 ?_
  refine lv_iload_n hx hb dX9_fail_9 rfl (lv_at hl 1 rfl) ?_
  obtain ⟨r_10, e_10, h⟩ := gBind_in h
  refine g_callVi (E' := gE a cI σ) (k0 := 5) (As := [.int x1]) (rest := []) F hI (c_X2_beginsOrEndsOne l D a cI F.2.2 N σ x1 r_10 e_10) kb_X2_beginsOrEndsOne ki_X2_beginsOrEndsOne ks_X2_beginsOrEndsOne km_X9_179 ⟨Nat.le_of_ble_eq_true rfl, Nat.le_of_ble_eq_true rfl, rfl, rfl⟩ (by decide) gE_5 rfl hl.1 rfl (Nat.le_of_ble_eq_true rfl) ⟨Nat.le_of_ble_eq_true rfl, Nat.le_of_ble_eq_true rfl⟩ dX9_fail_10 (fun H locs hI => ?_)
  obtain ⟨j21, hj21, h⟩ := gJoin1_in h
  have J21 : ∀ (w0_21 : Int32) (H : Heap) (locs : List Loc) (ls : Array Slot), j21 w0_21 = some out → g_S 65 D a (gE a cI σ) s.heap H locs → lv_has ls 3 [(0, .ref (a 0)), (1, .int x1), (2, .int x2)] → W p l e rmX9_fail s m args below meth c H locs 1 6 Q (F0 m 21 ls [.int w0_21]) := by
    intro w0_21 H locs ls h hI hl
    rw [hj21] at h
    refine g_callXSv (E' := gE a cI σ) (As := [.int w0_21]) (rest := []) F X hI (c_X9_needState l D a cI F.2.2 hlt sa σ w0_21) kb_X9_needState kt_X9_needState km_X9_111 ⟨Nat.le_of_ble_eq_true rfl, Nat.le_of_ble_eq_true rfl, rfl, rfl⟩ hl.1 rfl (Nat.le_of_ble_eq_true rfl) ⟨Nat.le_of_ble_eq_true rfl, Nat.le_of_ble_eq_true rfl⟩ dX9_fail_21 (fun H locs ce q9 hk hI h1 h2 h3 => ?_) (fun H locs hk hI => ?_)
    · have h := (if_neg hk).symm.trans h
      have h := Option.some.inj h
      subst h
      exact hqx _ _ _ _ _ _ _ _ _ hk (Nat.le_of_ble_eq_true rfl) (Nat.le_of_ble_eq_true rfl) hI h1 h2 h3
    have h := (if_pos hk).symm.trans h
    refine lv_aload_n hx hb dX9_fail_24 rfl (lv_at hl 0 rfl) ?_
    refine g_get F hI (by decide) gE_0 rfl ku_X9 3 (by decide) kf_X9_41 rfl dX9_fail_25 ?_
    refine lv_iload_n hx hb dX9_fail_28 rfl (lv_at hl 1 rfl) ?_
    refine lv_iload_n hx hb dX9_fail_29 rfl (lv_at hl 2 rfl) ?_
    refine g_callVi (E' := gE a cI ((f_X1_replaceFailed σ x1 x2).2)) (k0 := 4) (As := [.int x1, .int x2]) (rest := []) F hI (c_X1_replaceFailed l D a cI F.2.2 σ x1 x2) kb_X1_replaceFailed ki_X1_replaceFailed ks_X1_replaceFailed km_X9_182 ⟨Nat.le_of_ble_eq_true rfl, Nat.le_of_ble_eq_true rfl, rfl, rfl⟩ (by decide) gE_4 rfl hl.1 rfl (Nat.le_of_ble_eq_true rfl) ⟨Nat.le_of_ble_eq_true rfl, Nat.le_of_ble_eq_true rfl⟩ dX9_fail_30 (fun H locs hI => ?_)
    have h := Option.some.inj h
    subst h
    exact hq _ _ _ _ _ _ _ rfl rfl (Nat.le_of_ble_eq_true rfl) (Nat.le_of_ble_eq_true rfl) hI dX9_fail_33
  refine lv_if_ne (tgt := 20) hx hb dX9_fail_13 (by decide) (fun c_13 => ?_) (fun c_13 => ?_)
  · have h := (if_neg c_13).symm.trans h
    refine lv_iconst (v := 0) hx hb dX9_fail_20 (by decide) ?_
    exact J21 _ _ _ _ h hI (lv_sub hl [0, 1, 2] rfl)
  · have h := (if_pos c_13).symm.trans h
    refine lv_iconst (v := 1) hx hb dX9_fail_16 (by decide) ?_
    refine lv_goto (tgt := 21) hx hb dX9_fail_17 (by decide) ?_
    exact J21 _ _ _ _ h hI (lv_sub hl [0, 1, 2] rfl)
/-- Spurline.cell(II)I -/
def f_X9_cell (σ : gSt) (x1 x2 : Int32) : Nat × Int32 × gSt :=
  if f_X9_needCell σ x1 x2 = 0 then
    (0, (10 * (f_X8_heightOf σ (f_X8_number x1 x2))) + (f_X8_groundOf σ (f_X8_number x1 x2)), σ)
  else
    (f_X9_needCell σ x1 x2, 0, σ)
abbrev rmX9_cell : Room := { frames := 7, cells := 1, slots := 6, locals := 104 }
theorem kb_X9_cell : g_CB yX9_cell cX9_cell 4 (some .int) 2 := ⟨kc_X9_cell, kn_X9, by decide +kernel⟩
set_option maxRecDepth 100000 in
set_option maxHeartbeats 4000000 in
theorem c_X9_cell (l : Launch) (D : va_G) (a : Nat → Nat) (cI : ClassId) (hj : g_Inj 65 a) (hlt : l.stackTraces = false) (sa : Nat → Nat) (σ : gSt) (x1 x2 : Int32) : vx_Met l yX9_cell (Cond.code yX9_cell cX9_cell 4 (some .int) :: gW) rmX9_cell (g_PcX 65 D a (gE a cI σ) [(cI, .int)] sa [.ref (a 0), .int x1, .int x2]) (g_QXi 65 D a (gE a cI (f_X9_cell σ x1 x2).2.2) (f_X9_cell σ x1 x2).1 (f_X9_cell σ x1 x2).2.1) (g_XC 65 D a (gE a cI (f_X9_cell σ x1 x2).2.2) (f_X9_cell σ x1 x2).1) 1 6 (g_Own 65 a) := by
  generalize hh : f_X9_cell σ x1 x2 = out
  refine g_mxi (by decide) hj hlt rfl (Nat.le_of_ble_eq_true rfl) ?_
  intro p e s m args below meth c Q ls F X hl hI hq hqx
  have hx := F.1.1
  have hb := F.1.2.1
  have hl : lv_has ls 4 [(0, .ref (a 0)), (1, .int x1), (2, .int x2)] := hl
  have h := hh
  unfold f_X9_cell at h
  refine lv_aload_n hx hb dX9_cell_0 rfl (lv_at hl 0 rfl) ?_
  refine lv_iload_n hx hb dX9_cell_1 rfl (lv_at hl 1 rfl) ?_
  refine lv_iload_n hx hb dX9_cell_2 rfl (lv_at hl 2 rfl) ?_
  refine g_callXVv (E' := gE a cI σ) (k0 := 0) (As := [.int x1, .int x2]) (rest := []) F X hI (c_X9_needCell l D a cI F.2.2 hlt sa σ x1 x2) kb_X9_needCell ki_X9_needCell ks_X9_needCell km_X9_86 ⟨Nat.le_of_ble_eq_true rfl, Nat.le_of_ble_eq_true rfl, rfl, rfl⟩ (by decide) gE_0 rfl hl.1 rfl (Nat.le_of_ble_eq_true rfl) ⟨Nat.le_of_ble_eq_true rfl, Nat.le_of_ble_eq_true rfl⟩ dX9_cell_3 (fun H locs ce q9 hk hI h1 h2 h3 => ?_) (fun H locs hk hI => ?_)
  · have h := (if_neg hk).symm.trans h
    subst h
    exact hqx _ _ _ _ _ _ _ _ _ hk (Nat.le_of_ble_eq_true rfl) (Nat.le_of_ble_eq_true rfl) hI h1 h2 h3
  have h := (if_pos hk).symm.trans h
  refine lv_iload_n hx hb dX9_cell_6 rfl (lv_at hl 1 rfl) ?_
  refine lv_iload_n hx hb dX9_cell_7 rfl (lv_at hl 2 rfl) ?_
  refine g_callSi (E' := gE a cI σ) (As := [.int x1, .int x2]) (rest := []) F hI (c_X8_number l D a cI F.2.2 σ x1 x2) kb_X8_number kt_X8_number km_X9_93 ⟨Nat.le_of_ble_eq_true rfl, Nat.le_of_ble_eq_true rfl, rfl, rfl⟩ hl.1 rfl (Nat.le_of_ble_eq_true rfl) ⟨Nat.le_of_ble_eq_true rfl, Nat.le_of_ble_eq_true rfl⟩ dX9_cell_8 (fun H locs hI => ?_)
  refine lv_istore_n (lv' := [(3, .int (f_X8_number x1 x2)), (0, .ref (a 0)), (1, .int x1), (2, .int x2)]) hx hb dX9_cell_11 rfl hl (by decide) rfl (fun ls hl => ?_)
  refine lv_bipush (v := 10) hx hb dX9_cell_12 (by decide) ?_
  refine lv_aload_n hx hb dX9_cell_14 rfl (lv_at hl 1 rfl) ?_
  refine g_get F hI (by decide) gE_0 rfl ku_X9 0 (by decide) kf_X9_18 rfl dX9_cell_15 ?_
  refine lv_iload_n hx hb dX9_cell_18 rfl (lv_at hl 0 rfl) ?_
  refine g_callVi (E' := gE a cI σ) (k0 := 1) (As := [.int (f_X8_number x1 x2)]) (rest := [.int 10]) F hI (c_X8_heightOf l D a cI F.2.2 σ (f_X8_number x1 x2)) kb_X8_heightOf ki_X8_heightOf ks_X8_heightOf km_X9_186 ⟨Nat.le_of_ble_eq_true rfl, Nat.le_of_ble_eq_true rfl, rfl, rfl⟩ (by decide) gE_1 rfl hl.1 rfl (Nat.le_of_ble_eq_true rfl) ⟨Nat.le_of_ble_eq_true rfl, Nat.le_of_ble_eq_true rfl⟩ dX9_cell_19 (fun H locs hI => ?_)
  refine lv_imul hx hb dX9_cell_22 ?_
  refine lv_aload_n hx hb dX9_cell_23 rfl (lv_at hl 1 rfl) ?_
  refine g_get F hI (by decide) gE_0 rfl ku_X9 0 (by decide) kf_X9_18 rfl dX9_cell_24 ?_
  refine lv_iload_n hx hb dX9_cell_27 rfl (lv_at hl 0 rfl) ?_
  refine g_callVi (E' := gE a cI σ) (k0 := 1) (As := [.int (f_X8_number x1 x2)]) (rest := [.int (10 * (f_X8_heightOf σ (f_X8_number x1 x2)))]) F hI (c_X8_groundOf l D a cI F.2.2 σ (f_X8_number x1 x2)) kb_X8_groundOf ki_X8_groundOf ks_X8_groundOf km_X9_189 ⟨Nat.le_of_ble_eq_true rfl, Nat.le_of_ble_eq_true rfl, rfl, rfl⟩ (by decide) gE_1 rfl hl.1 rfl (Nat.le_of_ble_eq_true rfl) ⟨Nat.le_of_ble_eq_true rfl, Nat.le_of_ble_eq_true rfl⟩ dX9_cell_28 (fun H locs hI => ?_)
  refine lv_iadd hx hb dX9_cell_31 ?_
  subst h
  exact hq _ _ _ _ _ _ rfl (Nat.le_of_ble_eq_true rfl) (Nat.le_of_ble_eq_true rfl) hI dX9_cell_32
/-- Spurline.lines(I)I -/
def f_X9_lines (N : Nat) (σ : gSt) (x1 : Int32) : Option (Nat × Int32 × gSt) :=
  if f_X9_needRange x1 1 255 = 0 then
    (f_X0_trace N σ x1).bind (fun (s_13 : gSt) =>
    (f_X0_lineCount N s_13).bind (fun (r_20 : Int32) =>
    some (0, r_20, s_13)))
  else
    some (f_X9_needRange x1 1 255, 0, σ)
abbrev rmX9_lines : Room := { frames := 7, cells := 1, slots := 6, locals := 136 }
theorem kb_X9_lines : g_CB yX9_lines cX9_lines 2 (some .int) 1 := ⟨kc_X9_lines, kn_X9, by decide +kernel⟩
set_option maxRecDepth 100000 in
set_option maxHeartbeats 4000000 in
theorem c_X9_lines (l : Launch) (D : va_G) (a : Nat → Nat) (cI : ClassId) (hj : g_Inj 65 a) (hlt : l.stackTraces = false) (sa : Nat → Nat) (N : Nat) (σ : gSt) (x1 : Int32) (out : Nat × Int32 × gSt) (hh : f_X9_lines N σ x1 = some out) : vx_Met l yX9_lines (Cond.code yX9_lines cX9_lines 2 (some .int) :: gW) rmX9_lines (g_PcX 65 D a (gE a cI σ) [(cI, .int)] sa [.ref (a 0), .int x1]) (g_QXi 65 D a (gE a cI out.2.2) out.1 out.2.1) (g_XC 65 D a (gE a cI out.2.2) out.1) 1 6 (g_Own 65 a) := by
  refine g_mxi (by decide) hj hlt rfl (Nat.le_of_ble_eq_true rfl) ?_
  intro p e s m args below meth c Q ls F X hl hI hq hqx
  have hx := F.1.1
  have hb := F.1.2.1
  have hl : lv_has ls 2 [(0, .ref (a 0)), (1, .int x1)] := hl
  have h := hh
  unfold f_X9_lines at h
  refine lv_iload_n hx hb dX9_lines_0 rfl (lv_at hl 1 rfl) ?_
  refine lv_iconst (v := 1) hx hb dX9_lines_1 (by decide) ?_
  refine lv_sipush (v := 255) hx hb dX9_lines_2 (by decide) ?_
  refine g_callXSv (E' := gE a cI σ) (As := [.int x1, .int 1, .int 255]) (rest := []) F X hI (c_X9_needRange l D a cI F.2.2 hlt sa σ x1 1 255) kb_X9_needRange kt_X9_needRange km_X9_89 ⟨Nat.le_of_ble_eq_true rfl, Nat.le_of_ble_eq_true rfl, rfl, rfl⟩ hl.1 rfl (Nat.le_of_ble_eq_true rfl) ⟨Nat.le_of_ble_eq_true rfl, Nat.le_of_ble_eq_true rfl⟩ dX9_lines_5 (fun H locs ce q9 hk hI h1 h2 h3 => ?_) (fun H locs hk hI => ?_)
  · have h := (if_neg hk).symm.trans h
    have h := Option.some.inj h
    subst h
    exact hqx _ _ _ _ _ _ _ _ _ hk (Nat.le_of_ble_eq_true rfl) (Nat.le_of_ble_eq_true rfl) hI h1 h2 h3
  have h := (if_pos hk).symm.trans h
  refine lv_aload_n hx hb dX9_lines_8 rfl (lv_at hl 0 rfl) ?_
  refine g_get F hI (by decide) gE_0 rfl ku_X9 1 (by decide) kf_X9_27 rfl dX9_lines_9 ?_
  refine lv_iload_n hx hb dX9_lines_12 rfl (lv_at hl 1 rfl) ?_
  obtain ⟨s_13, e_13, h⟩ := gBind_in h
  refine g_callVv (E' := gE a cI s_13) (k0 := 2) (As := [.int x1]) (rest := []) F hI (c_X0_trace l D a cI F.2.2 N σ x1 s_13 e_13) kb_X0_trace ki_X0_trace ks_X0_trace km_X9_192 ⟨Nat.le_of_ble_eq_true rfl, Nat.le_of_ble_eq_true rfl, rfl, rfl⟩ (by decide) gE_2 rfl hl.1 rfl (Nat.le_of_ble_eq_true rfl) ⟨Nat.le_of_ble_eq_true rfl, Nat.le_of_ble_eq_true rfl⟩ dX9_lines_13 (fun H locs hI => ?_)
  refine lv_aload_n hx hb dX9_lines_16 rfl (lv_at hl 0 rfl) ?_
  refine g_get F hI (by decide) gE_0 rfl ku_X9 1 (by decide) kf_X9_27 rfl dX9_lines_17 ?_
  obtain ⟨r_20, e_20, h⟩ := gBind_in h
  refine g_callVi (E' := gE a cI s_13) (k0 := 2) (As := []) (rest := []) F hI (c_X0_lineCount l D a cI F.2.2 N s_13 r_20 e_20) kb_X0_lineCount ki_X0_lineCount ks_X0_lineCount km_X9_195 ⟨Nat.le_of_ble_eq_true rfl, Nat.le_of_ble_eq_true rfl, rfl, rfl⟩ (by decide) gE_2 rfl hl.1 rfl (Nat.le_of_ble_eq_true rfl) ⟨Nat.le_of_ble_eq_true rfl, Nat.le_of_ble_eq_true rfl⟩ dX9_lines_20 (fun H locs hI => ?_)
  have h := Option.some.inj h
  subst h
  exact hq _ _ _ _ _ _ rfl (Nat.le_of_ble_eq_true rfl) (Nat.le_of_ble_eq_true rfl) hI dX9_lines_23
/-- Spurline.rings(I)I -/
def f_X9_rings (N : Nat) (σ : gSt) (x1 : Int32) : Option (Nat × Int32 × gSt) :=
  if f_X9_needRange x1 1 255 = 0 then
    (f_X0_trace N σ x1).bind (fun (s_13 : gSt) =>
    (f_X0_ringCount N s_13).bind (fun (r_20 : Int32) =>
    some (0, r_20, s_13)))
  else
    some (f_X9_needRange x1 1 255, 0, σ)
abbrev rmX9_rings : Room := { frames := 7, cells := 1, slots := 6, locals := 136 }
theorem kb_X9_rings : g_CB yX9_rings cX9_rings 2 (some .int) 1 := ⟨kc_X9_rings, kn_X9, by decide +kernel⟩
set_option maxRecDepth 100000 in
set_option maxHeartbeats 4000000 in
theorem c_X9_rings (l : Launch) (D : va_G) (a : Nat → Nat) (cI : ClassId) (hj : g_Inj 65 a) (hlt : l.stackTraces = false) (sa : Nat → Nat) (N : Nat) (σ : gSt) (x1 : Int32) (out : Nat × Int32 × gSt) (hh : f_X9_rings N σ x1 = some out) : vx_Met l yX9_rings (Cond.code yX9_rings cX9_rings 2 (some .int) :: gW) rmX9_rings (g_PcX 65 D a (gE a cI σ) [(cI, .int)] sa [.ref (a 0), .int x1]) (g_QXi 65 D a (gE a cI out.2.2) out.1 out.2.1) (g_XC 65 D a (gE a cI out.2.2) out.1) 1 6 (g_Own 65 a) := by
  refine g_mxi (by decide) hj hlt rfl (Nat.le_of_ble_eq_true rfl) ?_
  intro p e s m args below meth c Q ls F X hl hI hq hqx
  have hx := F.1.1
  have hb := F.1.2.1
  have hl : lv_has ls 2 [(0, .ref (a 0)), (1, .int x1)] := hl
  have h := hh
  unfold f_X9_rings at h
  refine lv_iload_n hx hb dX9_rings_0 rfl (lv_at hl 1 rfl) ?_
  refine lv_iconst (v := 1) hx hb dX9_rings_1 (by decide) ?_
  refine lv_sipush (v := 255) hx hb dX9_rings_2 (by decide) ?_
  refine g_callXSv (E' := gE a cI σ) (As := [.int x1, .int 1, .int 255]) (rest := []) F X hI (c_X9_needRange l D a cI F.2.2 hlt sa σ x1 1 255) kb_X9_needRange kt_X9_needRange km_X9_89 ⟨Nat.le_of_ble_eq_true rfl, Nat.le_of_ble_eq_true rfl, rfl, rfl⟩ hl.1 rfl (Nat.le_of_ble_eq_true rfl) ⟨Nat.le_of_ble_eq_true rfl, Nat.le_of_ble_eq_true rfl⟩ dX9_rings_5 (fun H locs ce q9 hk hI h1 h2 h3 => ?_) (fun H locs hk hI => ?_)
  · have h := (if_neg hk).symm.trans h
    have h := Option.some.inj h
    subst h
    exact hqx _ _ _ _ _ _ _ _ _ hk (Nat.le_of_ble_eq_true rfl) (Nat.le_of_ble_eq_true rfl) hI h1 h2 h3
  have h := (if_pos hk).symm.trans h
  refine lv_aload_n hx hb dX9_rings_8 rfl (lv_at hl 0 rfl) ?_
  refine g_get F hI (by decide) gE_0 rfl ku_X9 1 (by decide) kf_X9_27 rfl dX9_rings_9 ?_
  refine lv_iload_n hx hb dX9_rings_12 rfl (lv_at hl 1 rfl) ?_
  obtain ⟨s_13, e_13, h⟩ := gBind_in h
  refine g_callVv (E' := gE a cI s_13) (k0 := 2) (As := [.int x1]) (rest := []) F hI (c_X0_trace l D a cI F.2.2 N σ x1 s_13 e_13) kb_X0_trace ki_X0_trace ks_X0_trace km_X9_192 ⟨Nat.le_of_ble_eq_true rfl, Nat.le_of_ble_eq_true rfl, rfl, rfl⟩ (by decide) gE_2 rfl hl.1 rfl (Nat.le_of_ble_eq_true rfl) ⟨Nat.le_of_ble_eq_true rfl, Nat.le_of_ble_eq_true rfl⟩ dX9_rings_13 (fun H locs hI => ?_)
  refine lv_aload_n hx hb dX9_rings_16 rfl (lv_at hl 0 rfl) ?_
  refine g_get F hI (by decide) gE_0 rfl ku_X9 1 (by decide) kf_X9_27 rfl dX9_rings_17 ?_
  obtain ⟨r_20, e_20, h⟩ := gBind_in h
  refine g_callVi (E' := gE a cI s_13) (k0 := 2) (As := []) (rest := []) F hI (c_X0_ringCount l D a cI F.2.2 N s_13 r_20 e_20) kb_X0_ringCount ki_X0_ringCount ks_X0_ringCount km_X9_198 ⟨Nat.le_of_ble_eq_true rfl, Nat.le_of_ble_eq_true rfl, rfl, rfl⟩ (by decide) gE_2 rfl hl.1 rfl (Nat.le_of_ble_eq_true rfl) ⟨Nat.le_of_ble_eq_true rfl, Nat.le_of_ble_eq_true rfl⟩ dX9_rings_20 (fun H locs hI => ?_)
  have h := Option.some.inj h
  subst h
  exact hq _ _ _ _ _ _ rfl (Nat.le_of_ble_eq_true rfl) (Nat.le_of_ble_eq_true rfl) hI dX9_rings_23
/-- Spurline.longest(I)I -/
def f_X9_longest (N : Nat) (σ : gSt) (x1 : Int32) : Option (Nat × Int32 × gSt) :=
  if f_X9_needRange x1 1 255 = 0 then
    (f_X0_trace N σ x1).bind (fun (s_13 : gSt) =>
    (f_X0_mostGaps N s_13).bind (fun (r_20 : Int32) =>
    some (0, r_20, s_13)))
  else
    some (f_X9_needRange x1 1 255, 0, σ)
abbrev rmX9_longest : Room := { frames := 7, cells := 1, slots := 6, locals := 136 }
theorem kb_X9_longest : g_CB yX9_longest cX9_longest 2 (some .int) 1 := ⟨kc_X9_longest, kn_X9, by decide +kernel⟩
set_option maxRecDepth 100000 in
set_option maxHeartbeats 4000000 in
theorem c_X9_longest (l : Launch) (D : va_G) (a : Nat → Nat) (cI : ClassId) (hj : g_Inj 65 a) (hlt : l.stackTraces = false) (sa : Nat → Nat) (N : Nat) (σ : gSt) (x1 : Int32) (out : Nat × Int32 × gSt) (hh : f_X9_longest N σ x1 = some out) : vx_Met l yX9_longest (Cond.code yX9_longest cX9_longest 2 (some .int) :: gW) rmX9_longest (g_PcX 65 D a (gE a cI σ) [(cI, .int)] sa [.ref (a 0), .int x1]) (g_QXi 65 D a (gE a cI out.2.2) out.1 out.2.1) (g_XC 65 D a (gE a cI out.2.2) out.1) 1 6 (g_Own 65 a) := by
  refine g_mxi (by decide) hj hlt rfl (Nat.le_of_ble_eq_true rfl) ?_
  intro p e s m args below meth c Q ls F X hl hI hq hqx
  have hx := F.1.1
  have hb := F.1.2.1
  have hl : lv_has ls 2 [(0, .ref (a 0)), (1, .int x1)] := hl
  have h := hh
  unfold f_X9_longest at h
  refine lv_iload_n hx hb dX9_longest_0 rfl (lv_at hl 1 rfl) ?_
  refine lv_iconst (v := 1) hx hb dX9_longest_1 (by decide) ?_
  refine lv_sipush (v := 255) hx hb dX9_longest_2 (by decide) ?_
  refine g_callXSv (E' := gE a cI σ) (As := [.int x1, .int 1, .int 255]) (rest := []) F X hI (c_X9_needRange l D a cI F.2.2 hlt sa σ x1 1 255) kb_X9_needRange kt_X9_needRange km_X9_89 ⟨Nat.le_of_ble_eq_true rfl, Nat.le_of_ble_eq_true rfl, rfl, rfl⟩ hl.1 rfl (Nat.le_of_ble_eq_true rfl) ⟨Nat.le_of_ble_eq_true rfl, Nat.le_of_ble_eq_true rfl⟩ dX9_longest_5 (fun H locs ce q9 hk hI h1 h2 h3 => ?_) (fun H locs hk hI => ?_)
  · have h := (if_neg hk).symm.trans h
    have h := Option.some.inj h
    subst h
    exact hqx _ _ _ _ _ _ _ _ _ hk (Nat.le_of_ble_eq_true rfl) (Nat.le_of_ble_eq_true rfl) hI h1 h2 h3
  have h := (if_pos hk).symm.trans h
  refine lv_aload_n hx hb dX9_longest_8 rfl (lv_at hl 0 rfl) ?_
  refine g_get F hI (by decide) gE_0 rfl ku_X9 1 (by decide) kf_X9_27 rfl dX9_longest_9 ?_
  refine lv_iload_n hx hb dX9_longest_12 rfl (lv_at hl 1 rfl) ?_
  obtain ⟨s_13, e_13, h⟩ := gBind_in h
  refine g_callVv (E' := gE a cI s_13) (k0 := 2) (As := [.int x1]) (rest := []) F hI (c_X0_trace l D a cI F.2.2 N σ x1 s_13 e_13) kb_X0_trace ki_X0_trace ks_X0_trace km_X9_192 ⟨Nat.le_of_ble_eq_true rfl, Nat.le_of_ble_eq_true rfl, rfl, rfl⟩ (by decide) gE_2 rfl hl.1 rfl (Nat.le_of_ble_eq_true rfl) ⟨Nat.le_of_ble_eq_true rfl, Nat.le_of_ble_eq_true rfl⟩ dX9_longest_13 (fun H locs hI => ?_)
  refine lv_aload_n hx hb dX9_longest_16 rfl (lv_at hl 0 rfl) ?_
  refine g_get F hI (by decide) gE_0 rfl ku_X9 1 (by decide) kf_X9_27 rfl dX9_longest_17 ?_
  obtain ⟨r_20, e_20, h⟩ := gBind_in h
  refine g_callVi (E' := gE a cI s_13) (k0 := 2) (As := []) (rest := []) F hI (c_X0_mostGaps l D a cI F.2.2 N s_13 r_20 e_20) kb_X0_mostGaps ki_X0_mostGaps ks_X0_mostGaps km_X9_201 ⟨Nat.le_of_ble_eq_true rfl, Nat.le_of_ble_eq_true rfl, rfl, rfl⟩ (by decide) gE_2 rfl hl.1 rfl (Nat.le_of_ble_eq_true rfl) ⟨Nat.le_of_ble_eq_true rfl, Nat.le_of_ble_eq_true rfl⟩ dX9_longest_20 (fun H locs hI => ?_)
  have h := Option.some.inj h
  subst h
  exact hq _ _ _ _ _ _ rfl (Nat.le_of_ble_eq_true rfl) (Nat.le_of_ble_eq_true rfl) hI dX9_longest_23
/-- Spurline.cost(II)I -/
def f_X9_cost (N : Nat) (σ : gSt) (x1 x2 : Int32) : Option (Nat × Int32 × gSt) :=
  if f_X9_needControl σ x1 = 0 then
    if f_X9_needControl σ x2 = 0 then
      (f_X6_search N σ (f_X1_cellOf σ x1) 0).bind (fun (s_23 : gSt) =>
      some (0, f_X6_costTo s_23 (f_X1_cellOf s_23 x2), s_23))
    else
      some (f_X9_needControl σ x2, 0, σ)
  else
    some (f_X9_needControl σ x1, 0, σ)
abbrev rmX9_cost : Room := { frames := 8, cells := 2, slots := 12, locals := 124 }
theorem kb_X9_cost : g_CB yX9_cost cX9_cost 3 (some .int) 2 := ⟨kc_X9_cost, kn_X9, by decide +kernel⟩
set_option maxRecDepth 100000 in
set_option maxHeartbeats 4000000 in
theorem c_X9_cost (l : Launch) (D : va_G) (a : Nat → Nat) (cI : ClassId) (hj : g_Inj 65 a) (hlt : l.stackTraces = false) (sa : Nat → Nat) (N : Nat) (σ : gSt) (x1 x2 : Int32) (out : Nat × Int32 × gSt) (hh : f_X9_cost N σ x1 x2 = some out) : vx_Met l yX9_cost (Cond.code yX9_cost cX9_cost 3 (some .int) :: gW) rmX9_cost (g_PcX 65 D a (gE a cI σ) [(cI, .int)] sa [.ref (a 0), .int x1, .int x2]) (g_QXi 65 D a (gE a cI out.2.2) out.1 out.2.1) (g_XC 65 D a (gE a cI out.2.2) out.1) 2 12 (g_Own 65 a) := by
  refine g_mxi (by decide) hj hlt rfl (Nat.le_of_ble_eq_true rfl) ?_
  intro p e s m args below meth c Q ls F X hl hI hq hqx
  have hx := F.1.1
  have hb := F.1.2.1
  have hl : lv_has ls 3 [(0, .ref (a 0)), (1, .int x1), (2, .int x2)] := hl
  have h := hh
  unfold f_X9_cost at h
  refine lv_aload_n hx hb dX9_cost_0 rfl (lv_at hl 0 rfl) ?_
  refine lv_iload_n hx hb dX9_cost_1 rfl (lv_at hl 1 rfl) ?_
  refine g_callXVv (E' := gE a cI σ) (k0 := 0) (As := [.int x1]) (rest := []) F X hI (c_X9_needControl l D a cI F.2.2 hlt sa σ x1) kb_X9_needControl ki_X9_needControl ks_X9_needControl km_X9_129 ⟨Nat.le_of_ble_eq_true rfl, Nat.le_of_ble_eq_true rfl, rfl, rfl⟩ (by decide) gE_0 rfl hl.1 rfl (Nat.le_of_ble_eq_true rfl) ⟨Nat.le_of_ble_eq_true rfl, Nat.le_of_ble_eq_true rfl⟩ dX9_cost_2 (fun H locs ce q9 hk hI h1 h2 h3 => ?_) (fun H locs hk hI => ?_)
  · have h := (if_neg hk).symm.trans h
    have h := Option.some.inj h
    subst h
    exact hqx _ _ _ _ _ _ _ _ _ hk (Nat.le_of_ble_eq_true rfl) (Nat.le_of_ble_eq_true rfl) hI h1 h2 h3
  have h := (if_pos hk).symm.trans h
  refine lv_aload_n hx hb dX9_cost_5 rfl (lv_at hl 0 rfl) ?_
  refine lv_iload_n hx hb dX9_cost_6 rfl (lv_at hl 2 rfl) ?_
  refine g_callXVv (E' := gE a cI σ) (k0 := 0) (As := [.int x2]) (rest := []) F X hI (c_X9_needControl l D a cI F.2.2 hlt sa σ x2) kb_X9_needControl ki_X9_needControl ks_X9_needControl km_X9_129 ⟨Nat.le_of_ble_eq_true rfl, Nat.le_of_ble_eq_true rfl, rfl, rfl⟩ (by decide) gE_0 rfl hl.1 rfl (Nat.le_of_ble_eq_true rfl) ⟨Nat.le_of_ble_eq_true rfl, Nat.le_of_ble_eq_true rfl⟩ dX9_cost_7 (fun H locs ce q9 hk hI h1 h2 h3 => ?_) (fun H locs hk hI => ?_)
  · have h := (if_neg hk).symm.trans h
    have h := Option.some.inj h
    subst h
    exact hqx _ _ _ _ _ _ _ _ _ hk (Nat.le_of_ble_eq_true rfl) (Nat.le_of_ble_eq_true rfl) hI h1 h2 h3
  have h := (if_pos hk).symm.trans h
  refine lv_aload_n hx hb dX9_cost_10 rfl (lv_at hl 0 rfl) ?_
  refine g_get F hI (by decide) gE_0 rfl ku_X9 2 (by decide) kf_X9_34 rfl dX9_cost_11 ?_
  refine lv_aload_n hx hb dX9_cost_14 rfl (lv_at hl 0 rfl) ?_
  refine g_get F hI (by decide) gE_0 rfl ku_X9 3 (by decide) kf_X9_41 rfl dX9_cost_15 ?_
  refine lv_iload_n hx hb dX9_cost_18 rfl (lv_at hl 1 rfl) ?_
  refine g_callVi (E' := gE a cI σ) (k0 := 4) (As := [.int x1]) (rest := [.ref (a 3)]) F hI (c_X1_cellOf l D a cI F.2.2 σ x1) kb_X1_cellOf ki_X1_cellOf ks_X1_cellOf km_X9_204 ⟨Nat.le_of_ble_eq_true rfl, Nat.le_of_ble_eq_true rfl, rfl, rfl⟩ (by decide) gE_4 rfl hl.1 rfl (Nat.le_of_ble_eq_true rfl) ⟨Nat.le_of_ble_eq_true rfl, Nat.le_of_ble_eq_true rfl⟩ dX9_cost_19 (fun H locs hI => ?_)
  refine lv_iconst (v := 0) hx hb dX9_cost_22 (by decide) ?_
  obtain ⟨s_23, e_23, h⟩ := gBind_in h
  refine g_callVv (E' := gE a cI s_23) (k0 := 3) (As := [.int (f_X1_cellOf σ x1), .int 0]) (rest := []) F hI (c_X6_search l D a cI F.2.2 N σ (f_X1_cellOf σ x1) 0 s_23 e_23) kb_X6_search ki_X6_search ks_X6_search km_X9_207 ⟨Nat.le_of_ble_eq_true rfl, Nat.le_of_ble_eq_true rfl, rfl, rfl⟩ (by decide) gE_3 rfl hl.1 rfl (Nat.le_of_ble_eq_true rfl) ⟨Nat.le_of_ble_eq_true rfl, Nat.le_of_ble_eq_true rfl⟩ dX9_cost_23 (fun H locs hI => ?_)
  refine lv_aload_n hx hb dX9_cost_26 rfl (lv_at hl 0 rfl) ?_
  refine g_get F hI (by decide) gE_0 rfl ku_X9 2 (by decide) kf_X9_34 rfl dX9_cost_27 ?_
  refine lv_aload_n hx hb dX9_cost_30 rfl (lv_at hl 0 rfl) ?_
  refine g_get F hI (by decide) gE_0 rfl ku_X9 3 (by decide) kf_X9_41 rfl dX9_cost_31 ?_
  refine lv_iload_n hx hb dX9_cost_34 rfl (lv_at hl 2 rfl) ?_
  refine g_callVi (E' := gE a cI s_23) (k0 := 4) (As := [.int x2]) (rest := [.ref (a 3)]) F hI (c_X1_cellOf l D a cI F.2.2 s_23 x2) kb_X1_cellOf ki_X1_cellOf ks_X1_cellOf km_X9_204 ⟨Nat.le_of_ble_eq_true rfl, Nat.le_of_ble_eq_true rfl, rfl, rfl⟩ (by decide) gE_4 rfl hl.1 rfl (Nat.le_of_ble_eq_true rfl) ⟨Nat.le_of_ble_eq_true rfl, Nat.le_of_ble_eq_true rfl⟩ dX9_cost_35 (fun H locs hI => ?_)
  refine g_callVi (E' := gE a cI s_23) (k0 := 3) (As := [.int (f_X1_cellOf s_23 x2)]) (rest := []) F hI (c_X6_costTo l D a cI F.2.2 s_23 (f_X1_cellOf s_23 x2)) kb_X6_costTo ki_X6_costTo ks_X6_costTo km_X9_211 ⟨Nat.le_of_ble_eq_true rfl, Nat.le_of_ble_eq_true rfl, rfl, rfl⟩ (by decide) gE_3 rfl hl.1 rfl (Nat.le_of_ble_eq_true rfl) ⟨Nat.le_of_ble_eq_true rfl, Nat.le_of_ble_eq_true rfl⟩ dX9_cost_38 (fun H locs hI => ?_)
  have h := Option.some.inj h
  subst h
  exact hq _ _ _ _ _ _ rfl (Nat.le_of_ble_eq_true rfl) (Nat.le_of_ble_eq_true rfl) hI dX9_cost_41
/-- Spurline.costByCells(II)I -/
def f_X9_costByCells (N : Nat) (σ : gSt) (x1 x2 : Int32) : Option (Nat × Int32 × gSt) :=
  if f_X9_needControl σ x1 = 0 then
    if f_X9_needControl σ x2 = 0 then
      (f_X6_searchByCells N σ (f_X1_cellOf σ x1)).bind (fun (s_22 : gSt) =>
      some (0, f_X6_costTo s_22 (f_X1_cellOf s_22 x2), s_22))
    else
      some (f_X9_needControl σ x2, 0, σ)
  else
    some (f_X9_needControl σ x1, 0, σ)
abbrev rmX9_costByCells : Room := { frames := 8, cells := 2, slots := 12, locals := 124 }
theorem kb_X9_costByCells : g_CB yX9_costByCells cX9_costByCells 3 (some .int) 2 := ⟨kc_X9_costByCells, kn_X9, by decide +kernel⟩
set_option maxRecDepth 100000 in
set_option maxHeartbeats 4000000 in
theorem c_X9_costByCells (l : Launch) (D : va_G) (a : Nat → Nat) (cI : ClassId) (hj : g_Inj 65 a) (hlt : l.stackTraces = false) (sa : Nat → Nat) (N : Nat) (σ : gSt) (x1 x2 : Int32) (out : Nat × Int32 × gSt) (hh : f_X9_costByCells N σ x1 x2 = some out) : vx_Met l yX9_costByCells (Cond.code yX9_costByCells cX9_costByCells 3 (some .int) :: gW) rmX9_costByCells (g_PcX 65 D a (gE a cI σ) [(cI, .int)] sa [.ref (a 0), .int x1, .int x2]) (g_QXi 65 D a (gE a cI out.2.2) out.1 out.2.1) (g_XC 65 D a (gE a cI out.2.2) out.1) 2 12 (g_Own 65 a) := by
  refine g_mxi (by decide) hj hlt rfl (Nat.le_of_ble_eq_true rfl) ?_
  intro p e s m args below meth c Q ls F X hl hI hq hqx
  have hx := F.1.1
  have hb := F.1.2.1
  have hl : lv_has ls 3 [(0, .ref (a 0)), (1, .int x1), (2, .int x2)] := hl
  have h := hh
  unfold f_X9_costByCells at h
  refine lv_aload_n hx hb dX9_costByCells_0 rfl (lv_at hl 0 rfl) ?_
  refine lv_iload_n hx hb dX9_costByCells_1 rfl (lv_at hl 1 rfl) ?_
  refine g_callXVv (E' := gE a cI σ) (k0 := 0) (As := [.int x1]) (rest := []) F X hI (c_X9_needControl l D a cI F.2.2 hlt sa σ x1) kb_X9_needControl ki_X9_needControl ks_X9_needControl km_X9_129 ⟨Nat.le_of_ble_eq_true rfl, Nat.le_of_ble_eq_true rfl, rfl, rfl⟩ (by decide) gE_0 rfl hl.1 rfl (Nat.le_of_ble_eq_true rfl) ⟨Nat.le_of_ble_eq_true rfl, Nat.le_of_ble_eq_true rfl⟩ dX9_costByCells_2 (fun H locs ce q9 hk hI h1 h2 h3 => ?_) (fun H locs hk hI => ?_)
  · have h := (if_neg hk).symm.trans h
    have h := Option.some.inj h
    subst h
    exact hqx _ _ _ _ _ _ _ _ _ hk (Nat.le_of_ble_eq_true rfl) (Nat.le_of_ble_eq_true rfl) hI h1 h2 h3
  have h := (if_pos hk).symm.trans h
  refine lv_aload_n hx hb dX9_costByCells_5 rfl (lv_at hl 0 rfl) ?_
  refine lv_iload_n hx hb dX9_costByCells_6 rfl (lv_at hl 2 rfl) ?_
  refine g_callXVv (E' := gE a cI σ) (k0 := 0) (As := [.int x2]) (rest := []) F X hI (c_X9_needControl l D a cI F.2.2 hlt sa σ x2) kb_X9_needControl ki_X9_needControl ks_X9_needControl km_X9_129 ⟨Nat.le_of_ble_eq_true rfl, Nat.le_of_ble_eq_true rfl, rfl, rfl⟩ (by decide) gE_0 rfl hl.1 rfl (Nat.le_of_ble_eq_true rfl) ⟨Nat.le_of_ble_eq_true rfl, Nat.le_of_ble_eq_true rfl⟩ dX9_costByCells_7 (fun H locs ce q9 hk hI h1 h2 h3 => ?_) (fun H locs hk hI => ?_)
  · have h := (if_neg hk).symm.trans h
    have h := Option.some.inj h
    subst h
    exact hqx _ _ _ _ _ _ _ _ _ hk (Nat.le_of_ble_eq_true rfl) (Nat.le_of_ble_eq_true rfl) hI h1 h2 h3
  have h := (if_pos hk).symm.trans h
  refine lv_aload_n hx hb dX9_costByCells_10 rfl (lv_at hl 0 rfl) ?_
  refine g_get F hI (by decide) gE_0 rfl ku_X9 2 (by decide) kf_X9_34 rfl dX9_costByCells_11 ?_
  refine lv_aload_n hx hb dX9_costByCells_14 rfl (lv_at hl 0 rfl) ?_
  refine g_get F hI (by decide) gE_0 rfl ku_X9 3 (by decide) kf_X9_41 rfl dX9_costByCells_15 ?_
  refine lv_iload_n hx hb dX9_costByCells_18 rfl (lv_at hl 1 rfl) ?_
  refine g_callVi (E' := gE a cI σ) (k0 := 4) (As := [.int x1]) (rest := [.ref (a 3)]) F hI (c_X1_cellOf l D a cI F.2.2 σ x1) kb_X1_cellOf ki_X1_cellOf ks_X1_cellOf km_X9_204 ⟨Nat.le_of_ble_eq_true rfl, Nat.le_of_ble_eq_true rfl, rfl, rfl⟩ (by decide) gE_4 rfl hl.1 rfl (Nat.le_of_ble_eq_true rfl) ⟨Nat.le_of_ble_eq_true rfl, Nat.le_of_ble_eq_true rfl⟩ dX9_costByCells_19 (fun H locs hI => ?_)
  obtain ⟨s_22, e_22, h⟩ := gBind_in h
  refine g_callVv (E' := gE a cI s_22) (k0 := 3) (As := [.int (f_X1_cellOf σ x1)]) (rest := []) F hI (c_X6_searchByCells l D a cI F.2.2 N σ (f_X1_cellOf σ x1) s_22 e_22) kb_X6_searchByCells ki_X6_searchByCells ks_X6_searchByCells km_X9_214 ⟨Nat.le_of_ble_eq_true rfl, Nat.le_of_ble_eq_true rfl, rfl, rfl⟩ (by decide) gE_3 rfl hl.1 rfl (Nat.le_of_ble_eq_true rfl) ⟨Nat.le_of_ble_eq_true rfl, Nat.le_of_ble_eq_true rfl⟩ dX9_costByCells_22 (fun H locs hI => ?_)
  refine lv_aload_n hx hb dX9_costByCells_25 rfl (lv_at hl 0 rfl) ?_
  refine g_get F hI (by decide) gE_0 rfl ku_X9 2 (by decide) kf_X9_34 rfl dX9_costByCells_26 ?_
  refine lv_aload_n hx hb dX9_costByCells_29 rfl (lv_at hl 0 rfl) ?_
  refine g_get F hI (by decide) gE_0 rfl ku_X9 3 (by decide) kf_X9_41 rfl dX9_costByCells_30 ?_
  refine lv_iload_n hx hb dX9_costByCells_33 rfl (lv_at hl 2 rfl) ?_
  refine g_callVi (E' := gE a cI s_22) (k0 := 4) (As := [.int x2]) (rest := [.ref (a 3)]) F hI (c_X1_cellOf l D a cI F.2.2 s_22 x2) kb_X1_cellOf ki_X1_cellOf ks_X1_cellOf km_X9_204 ⟨Nat.le_of_ble_eq_true rfl, Nat.le_of_ble_eq_true rfl, rfl, rfl⟩ (by decide) gE_4 rfl hl.1 rfl (Nat.le_of_ble_eq_true rfl) ⟨Nat.le_of_ble_eq_true rfl, Nat.le_of_ble_eq_true rfl⟩ dX9_costByCells_34 (fun H locs hI => ?_)
  refine g_callVi (E' := gE a cI s_22) (k0 := 3) (As := [.int (f_X1_cellOf s_22 x2)]) (rest := []) F hI (c_X6_costTo l D a cI F.2.2 s_22 (f_X1_cellOf s_22 x2)) kb_X6_costTo ki_X6_costTo ks_X6_costTo km_X9_211 ⟨Nat.le_of_ble_eq_true rfl, Nat.le_of_ble_eq_true rfl, rfl, rfl⟩ (by decide) gE_3 rfl hl.1 rfl (Nat.le_of_ble_eq_true rfl) ⟨Nat.le_of_ble_eq_true rfl, Nat.le_of_ble_eq_true rfl⟩ dX9_costByCells_37 (fun H locs hI => ?_)
  have h := Option.some.inj h
  subst h
  exact hq _ _ _ _ _ _ rfl (Nat.le_of_ble_eq_true rfl) (Nat.le_of_ble_eq_true rfl) hI dX9_costByCells_40
/-- Spurline.climb(II)I -/
def f_X9_climb (N : Nat) (σ : gSt) (x1 x2 : Int32) : Option (Nat × Int32 × gSt) :=
  if f_X9_needControl σ x1 = 0 then
    if f_X9_needControl σ x2 = 0 then
      (f_X6_search N σ (f_X1_cellOf σ x1) 0).bind (fun (s_23 : gSt) =>
      some (0, f_X6_climbTo s_23 (f_X1_cellOf s_23 x2), s_23))
    else
      some (f_X9_needControl σ x2, 0, σ)
  else
    some (f_X9_needControl σ x1, 0, σ)
abbrev rmX9_climb : Room := { frames := 8, cells := 2, slots := 12, locals := 124 }
theorem kb_X9_climb : g_CB yX9_climb cX9_climb 3 (some .int) 2 := ⟨kc_X9_climb, kn_X9, by decide +kernel⟩
set_option maxRecDepth 100000 in
set_option maxHeartbeats 4000000 in
theorem c_X9_climb (l : Launch) (D : va_G) (a : Nat → Nat) (cI : ClassId) (hj : g_Inj 65 a) (hlt : l.stackTraces = false) (sa : Nat → Nat) (N : Nat) (σ : gSt) (x1 x2 : Int32) (out : Nat × Int32 × gSt) (hh : f_X9_climb N σ x1 x2 = some out) : vx_Met l yX9_climb (Cond.code yX9_climb cX9_climb 3 (some .int) :: gW) rmX9_climb (g_PcX 65 D a (gE a cI σ) [(cI, .int)] sa [.ref (a 0), .int x1, .int x2]) (g_QXi 65 D a (gE a cI out.2.2) out.1 out.2.1) (g_XC 65 D a (gE a cI out.2.2) out.1) 2 12 (g_Own 65 a) := by
  refine g_mxi (by decide) hj hlt rfl (Nat.le_of_ble_eq_true rfl) ?_
  intro p e s m args below meth c Q ls F X hl hI hq hqx
  have hx := F.1.1
  have hb := F.1.2.1
  have hl : lv_has ls 3 [(0, .ref (a 0)), (1, .int x1), (2, .int x2)] := hl
  have h := hh
  unfold f_X9_climb at h
  refine lv_aload_n hx hb dX9_climb_0 rfl (lv_at hl 0 rfl) ?_
  refine lv_iload_n hx hb dX9_climb_1 rfl (lv_at hl 1 rfl) ?_
  refine g_callXVv (E' := gE a cI σ) (k0 := 0) (As := [.int x1]) (rest := []) F X hI (c_X9_needControl l D a cI F.2.2 hlt sa σ x1) kb_X9_needControl ki_X9_needControl ks_X9_needControl km_X9_129 ⟨Nat.le_of_ble_eq_true rfl, Nat.le_of_ble_eq_true rfl, rfl, rfl⟩ (by decide) gE_0 rfl hl.1 rfl (Nat.le_of_ble_eq_true rfl) ⟨Nat.le_of_ble_eq_true rfl, Nat.le_of_ble_eq_true rfl⟩ dX9_climb_2 (fun H locs ce q9 hk hI h1 h2 h3 => ?_) (fun H locs hk hI => ?_)
  · have h := (if_neg hk).symm.trans h
    have h := Option.some.inj h
    subst h
    exact hqx _ _ _ _ _ _ _ _ _ hk (Nat.le_of_ble_eq_true rfl) (Nat.le_of_ble_eq_true rfl) hI h1 h2 h3
  have h := (if_pos hk).symm.trans h
  refine lv_aload_n hx hb dX9_climb_5 rfl (lv_at hl 0 rfl) ?_
  refine lv_iload_n hx hb dX9_climb_6 rfl (lv_at hl 2 rfl) ?_
  refine g_callXVv (E' := gE a cI σ) (k0 := 0) (As := [.int x2]) (rest := []) F X hI (c_X9_needControl l D a cI F.2.2 hlt sa σ x2) kb_X9_needControl ki_X9_needControl ks_X9_needControl km_X9_129 ⟨Nat.le_of_ble_eq_true rfl, Nat.le_of_ble_eq_true rfl, rfl, rfl⟩ (by decide) gE_0 rfl hl.1 rfl (Nat.le_of_ble_eq_true rfl) ⟨Nat.le_of_ble_eq_true rfl, Nat.le_of_ble_eq_true rfl⟩ dX9_climb_7 (fun H locs ce q9 hk hI h1 h2 h3 => ?_) (fun H locs hk hI => ?_)
  · have h := (if_neg hk).symm.trans h
    have h := Option.some.inj h
    subst h
    exact hqx _ _ _ _ _ _ _ _ _ hk (Nat.le_of_ble_eq_true rfl) (Nat.le_of_ble_eq_true rfl) hI h1 h2 h3
  have h := (if_pos hk).symm.trans h
  refine lv_aload_n hx hb dX9_climb_10 rfl (lv_at hl 0 rfl) ?_
  refine g_get F hI (by decide) gE_0 rfl ku_X9 2 (by decide) kf_X9_34 rfl dX9_climb_11 ?_
  refine lv_aload_n hx hb dX9_climb_14 rfl (lv_at hl 0 rfl) ?_
  refine g_get F hI (by decide) gE_0 rfl ku_X9 3 (by decide) kf_X9_41 rfl dX9_climb_15 ?_
  refine lv_iload_n hx hb dX9_climb_18 rfl (lv_at hl 1 rfl) ?_
  refine g_callVi (E' := gE a cI σ) (k0 := 4) (As := [.int x1]) (rest := [.ref (a 3)]) F hI (c_X1_cellOf l D a cI F.2.2 σ x1) kb_X1_cellOf ki_X1_cellOf ks_X1_cellOf km_X9_204 ⟨Nat.le_of_ble_eq_true rfl, Nat.le_of_ble_eq_true rfl, rfl, rfl⟩ (by decide) gE_4 rfl hl.1 rfl (Nat.le_of_ble_eq_true rfl) ⟨Nat.le_of_ble_eq_true rfl, Nat.le_of_ble_eq_true rfl⟩ dX9_climb_19 (fun H locs hI => ?_)
  refine lv_iconst (v := 0) hx hb dX9_climb_22 (by decide) ?_
  obtain ⟨s_23, e_23, h⟩ := gBind_in h
  refine g_callVv (E' := gE a cI s_23) (k0 := 3) (As := [.int (f_X1_cellOf σ x1), .int 0]) (rest := []) F hI (c_X6_search l D a cI F.2.2 N σ (f_X1_cellOf σ x1) 0 s_23 e_23) kb_X6_search ki_X6_search ks_X6_search km_X9_207 ⟨Nat.le_of_ble_eq_true rfl, Nat.le_of_ble_eq_true rfl, rfl, rfl⟩ (by decide) gE_3 rfl hl.1 rfl (Nat.le_of_ble_eq_true rfl) ⟨Nat.le_of_ble_eq_true rfl, Nat.le_of_ble_eq_true rfl⟩ dX9_climb_23 (fun H locs hI => ?_)
  refine lv_aload_n hx hb dX9_climb_26 rfl (lv_at hl 0 rfl) ?_
  refine g_get F hI (by decide) gE_0 rfl ku_X9 2 (by decide) kf_X9_34 rfl dX9_climb_27 ?_
  refine lv_aload_n hx hb dX9_climb_30 rfl (lv_at hl 0 rfl) ?_
  refine g_get F hI (by decide) gE_0 rfl ku_X9 3 (by decide) kf_X9_41 rfl dX9_climb_31 ?_
  refine lv_iload_n hx hb dX9_climb_34 rfl (lv_at hl 2 rfl) ?_
  refine g_callVi (E' := gE a cI s_23) (k0 := 4) (As := [.int x2]) (rest := [.ref (a 3)]) F hI (c_X1_cellOf l D a cI F.2.2 s_23 x2) kb_X1_cellOf ki_X1_cellOf ks_X1_cellOf km_X9_204 ⟨Nat.le_of_ble_eq_true rfl, Nat.le_of_ble_eq_true rfl, rfl, rfl⟩ (by decide) gE_4 rfl hl.1 rfl (Nat.le_of_ble_eq_true rfl) ⟨Nat.le_of_ble_eq_true rfl, Nat.le_of_ble_eq_true rfl⟩ dX9_climb_35 (fun H locs hI => ?_)
  refine g_callVi (E' := gE a cI s_23) (k0 := 3) (As := [.int (f_X1_cellOf s_23 x2)]) (rest := []) F hI (c_X6_climbTo l D a cI F.2.2 s_23 (f_X1_cellOf s_23 x2)) kb_X6_climbTo ki_X6_climbTo ks_X6_climbTo km_X9_217 ⟨Nat.le_of_ble_eq_true rfl, Nat.le_of_ble_eq_true rfl, rfl, rfl⟩ (by decide) gE_3 rfl hl.1 rfl (Nat.le_of_ble_eq_true rfl) ⟨Nat.le_of_ble_eq_true rfl, Nat.le_of_ble_eq_true rfl⟩ dX9_climb_38 (fun H locs hI => ?_)
  have h := Option.some.inj h
  subst h
  exact hq _ _ _ _ _ _ rfl (Nat.le_of_ble_eq_true rfl) (Nat.le_of_ble_eq_true rfl) hI dX9_climb_41
/-- Spurline.tempts(II)Z -/
def f_X9_tempts (N : Nat) (σ : gSt) (x1 x2 : Int32) : Option (Nat × Int32 × gSt) :=
  if f_X9_needControl σ x1 = 0 then
    if f_X9_needControl σ x2 = 0 then
      (f_X6_search N σ (f_X1_cellOf σ x1) 0).bind (fun (s_32 : gSt) =>
      (f_X6_search N s_32 (f_X1_cellOf s_32 x1) 1).bind (fun (s_58 : gSt) =>
      if f_X6_costTo s_32 (f_X1_cellOf σ x2) = (-1) then
        some (0, 1, s_58)
      else
        if f_X6_costTo s_32 (f_X1_cellOf σ x2) ≤ f_X6_costTo s_58 (f_X1_cellOf σ x2) then
          some (0, 0, s_58)
        else
          some (0, 1, s_58)))
    else
      some (f_X9_needControl σ x2, 0, σ)
  else
    some (f_X9_needControl σ x1, 0, σ)
abbrev rmX9_tempts : Room := { frames := 8, cells := 2, slots := 12, locals := 124 }
theorem kb_X9_tempts : g_CB yX9_tempts cX9_tempts 5 (some .boolean) 2 := ⟨kc_X9_tempts, kn_X9, by decide +kernel⟩
set_option maxRecDepth 100000 in
set_option maxHeartbeats 4000000 in
theorem c_X9_tempts (l : Launch) (D : va_G) (a : Nat → Nat) (cI : ClassId) (hj : g_Inj 65 a) (hlt : l.stackTraces = false) (sa : Nat → Nat) (N : Nat) (σ : gSt) (x1 x2 : Int32) (out : Nat × Int32 × gSt) (hh : f_X9_tempts N σ x1 x2 = some out) : vx_Met l yX9_tempts (Cond.code yX9_tempts cX9_tempts 5 (some .boolean) :: gW) rmX9_tempts (g_PcX 65 D a (gE a cI σ) [(cI, .int)] sa [.ref (a 0), .int x1, .int x2]) (g_QXi 65 D a (gE a cI out.2.2) out.1 out.2.1) (g_XC 65 D a (gE a cI out.2.2) out.1) 2 12 (g_Own 65 a) := by
  refine g_mxz (by decide) hj hlt rfl (Nat.le_of_ble_eq_true rfl) ?_
  intro p e s m args below meth c Q ls F X hl hI hq hqx
  have hx := F.1.1
  have hb := F.1.2.1
  have hl : lv_has ls 5 [(0, .ref (a 0)), (1, .int x1), (2, .int x2)] := hl
  have h := hh
  unfold f_X9_tempts at h
  refine lv_aload_n hx hb dX9_tempts_0 rfl (lv_at hl 0 rfl) ?_
  refine lv_iload_n hx hb dX9_tempts_1 rfl (lv_at hl 1 rfl) ?_
  refine g_callXVv (E' := gE a cI σ) (k0 := 0) (As := [.int x1]) (rest := []) F X hI (c_X9_needControl l D a cI F.2.2 hlt sa σ x1) kb_X9_needControl ki_X9_needControl ks_X9_needControl km_X9_129 ⟨Nat.le_of_ble_eq_true rfl, Nat.le_of_ble_eq_true rfl, rfl, rfl⟩ (by decide) gE_0 rfl hl.1 rfl (Nat.le_of_ble_eq_true rfl) ⟨Nat.le_of_ble_eq_true rfl, Nat.le_of_ble_eq_true rfl⟩ dX9_tempts_2 (fun H locs ce q9 hk hI h1 h2 h3 => ?_) (fun H locs hk hI => ?_)
  · have h := (if_neg hk).symm.trans h
    have h := Option.some.inj h
    subst h
    exact hqx _ _ _ _ _ _ _ _ _ hk (Nat.le_of_ble_eq_true rfl) (Nat.le_of_ble_eq_true rfl) hI h1 h2 h3
  have h := (if_pos hk).symm.trans h
  refine lv_aload_n hx hb dX9_tempts_5 rfl (lv_at hl 0 rfl) ?_
  refine lv_iload_n hx hb dX9_tempts_6 rfl (lv_at hl 2 rfl) ?_
  refine g_callXVv (E' := gE a cI σ) (k0 := 0) (As := [.int x2]) (rest := []) F X hI (c_X9_needControl l D a cI F.2.2 hlt sa σ x2) kb_X9_needControl ki_X9_needControl ks_X9_needControl km_X9_129 ⟨Nat.le_of_ble_eq_true rfl, Nat.le_of_ble_eq_true rfl, rfl, rfl⟩ (by decide) gE_0 rfl hl.1 rfl (Nat.le_of_ble_eq_true rfl) ⟨Nat.le_of_ble_eq_true rfl, Nat.le_of_ble_eq_true rfl⟩ dX9_tempts_7 (fun H locs ce q9 hk hI h1 h2 h3 => ?_) (fun H locs hk hI => ?_)
  · have h := (if_neg hk).symm.trans h
    have h := Option.some.inj h
    subst h
    exact hqx _ _ _ _ _ _ _ _ _ hk (Nat.le_of_ble_eq_true rfl) (Nat.le_of_ble_eq_true rfl) hI h1 h2 h3
  have h := (if_pos hk).symm.trans h
  refine lv_aload_n hx hb dX9_tempts_10 rfl (lv_at hl 0 rfl) ?_
  refine g_get F hI (by decide) gE_0 rfl ku_X9 3 (by decide) kf_X9_41 rfl dX9_tempts_11 ?_
  refine lv_iload_n hx hb dX9_tempts_14 rfl (lv_at hl 2 rfl) ?_
  refine g_callVi (E' := gE a cI σ) (k0 := 4) (As := [.int x2]) (rest := []) F hI (c_X1_cellOf l D a cI F.2.2 σ x2) kb_X1_cellOf ki_X1_cellOf ks_X1_cellOf km_X9_204 ⟨Nat.le_of_ble_eq_true rfl, Nat.le_of_ble_eq_true rfl, rfl, rfl⟩ (by decide) gE_4 rfl hl.1 rfl (Nat.le_of_ble_eq_true rfl) ⟨Nat.le_of_ble_eq_true rfl, Nat.le_of_ble_eq_true rfl⟩ dX9_tempts_15 (fun H locs hI => ?_)
  refine lv_istore_n (lv' := [(3, .int (f_X1_cellOf σ x2)), (0, .ref (a 0)), (1, .int x1), (2, .int x2)]) hx hb dX9_tempts_18 rfl hl (by decide) rfl (fun ls hl => ?_)
  refine lv_aload_n hx hb dX9_tempts_19 rfl (lv_at hl 1 rfl) ?_
  refine g_get F hI (by decide) gE_0 rfl ku_X9 2 (by decide) kf_X9_34 rfl dX9_tempts_20 ?_
  refine lv_aload_n hx hb dX9_tempts_23 rfl (lv_at hl 1 rfl) ?_
  refine g_get F hI (by decide) gE_0 rfl ku_X9 3 (by decide) kf_X9_41 rfl dX9_tempts_24 ?_
  refine lv_iload_n hx hb dX9_tempts_27 rfl (lv_at hl 2 rfl) ?_
  refine g_callVi (E' := gE a cI σ) (k0 := 4) (As := [.int x1]) (rest := [.ref (a 3)]) F hI (c_X1_cellOf l D a cI F.2.2 σ x1) kb_X1_cellOf ki_X1_cellOf ks_X1_cellOf km_X9_204 ⟨Nat.le_of_ble_eq_true rfl, Nat.le_of_ble_eq_true rfl, rfl, rfl⟩ (by decide) gE_4 rfl hl.1 rfl (Nat.le_of_ble_eq_true rfl) ⟨Nat.le_of_ble_eq_true rfl, Nat.le_of_ble_eq_true rfl⟩ dX9_tempts_28 (fun H locs hI => ?_)
  refine lv_iconst (v := 0) hx hb dX9_tempts_31 (by decide) ?_
  obtain ⟨s_32, e_32, h⟩ := gBind_in h
  refine g_callVv (E' := gE a cI s_32) (k0 := 3) (As := [.int (f_X1_cellOf σ x1), .int 0]) (rest := []) F hI (c_X6_search l D a cI F.2.2 N σ (f_X1_cellOf σ x1) 0 s_32 e_32) kb_X6_search ki_X6_search ks_X6_search km_X9_207 ⟨Nat.le_of_ble_eq_true rfl, Nat.le_of_ble_eq_true rfl, rfl, rfl⟩ (by decide) gE_3 rfl hl.1 rfl (Nat.le_of_ble_eq_true rfl) ⟨Nat.le_of_ble_eq_true rfl, Nat.le_of_ble_eq_true rfl⟩ dX9_tempts_32 (fun H locs hI => ?_)
  refine lv_aload_n hx hb dX9_tempts_35 rfl (lv_at hl 1 rfl) ?_
  refine g_get F hI (by decide) gE_0 rfl ku_X9 2 (by decide) kf_X9_34 rfl dX9_tempts_36 ?_
  refine lv_iload_n hx hb dX9_tempts_39 rfl (lv_at hl 0 rfl) ?_
  refine g_callVi (E' := gE a cI s_32) (k0 := 3) (As := [.int (f_X1_cellOf σ x2)]) (rest := []) F hI (c_X6_costTo l D a cI F.2.2 s_32 (f_X1_cellOf σ x2)) kb_X6_costTo ki_X6_costTo ks_X6_costTo km_X9_211 ⟨Nat.le_of_ble_eq_true rfl, Nat.le_of_ble_eq_true rfl, rfl, rfl⟩ (by decide) gE_3 rfl hl.1 rfl (Nat.le_of_ble_eq_true rfl) ⟨Nat.le_of_ble_eq_true rfl, Nat.le_of_ble_eq_true rfl⟩ dX9_tempts_40 (fun H locs hI => ?_)
  refine lv_istore (lv' := [(4, .int (f_X6_costTo s_32 (f_X1_cellOf σ x2))), (3, .int (f_X1_cellOf σ x2)), (0, .ref (a 0)), (1, .int x1), (2, .int x2)]) hx hb dX9_tempts_43 hl (by decide) rfl (fun ls hl => ?_)
  refine lv_aload_n hx hb dX9_tempts_45 rfl (lv_at hl 2 rfl) ?_
  refine g_get F hI (by decide) gE_0 rfl ku_X9 2 (by decide) kf_X9_34 rfl dX9_tempts_46 ?_
  refine lv_aload_n hx hb dX9_tempts_49 rfl (lv_at hl 2 rfl) ?_
  refine g_get F hI (by decide) gE_0 rfl ku_X9 3 (by decide) kf_X9_41 rfl dX9_tempts_50 ?_
  refine lv_iload_n hx hb dX9_tempts_53 rfl (lv_at hl 3 rfl) ?_
  refine g_callVi (E' := gE a cI s_32) (k0 := 4) (As := [.int x1]) (rest := [.ref (a 3)]) F hI (c_X1_cellOf l D a cI F.2.2 s_32 x1) kb_X1_cellOf ki_X1_cellOf ks_X1_cellOf km_X9_204 ⟨Nat.le_of_ble_eq_true rfl, Nat.le_of_ble_eq_true rfl, rfl, rfl⟩ (by decide) gE_4 rfl hl.1 rfl (Nat.le_of_ble_eq_true rfl) ⟨Nat.le_of_ble_eq_true rfl, Nat.le_of_ble_eq_true rfl⟩ dX9_tempts_54 (fun H locs hI => ?_)
  refine lv_iconst (v := 1) hx hb dX9_tempts_57 (by decide) ?_
  obtain ⟨s_58, e_58, h⟩ := gBind_in h
  refine g_callVv (E' := gE a cI s_58) (k0 := 3) (As := [.int (f_X1_cellOf s_32 x1), .int 1]) (rest := []) F hI (c_X6_search l D a cI F.2.2 N s_32 (f_X1_cellOf s_32 x1) 1 s_58 e_58) kb_X6_search ki_X6_search ks_X6_search km_X9_207 ⟨Nat.le_of_ble_eq_true rfl, Nat.le_of_ble_eq_true rfl, rfl, rfl⟩ (by decide) gE_3 rfl hl.1 rfl (Nat.le_of_ble_eq_true rfl) ⟨Nat.le_of_ble_eq_true rfl, Nat.le_of_ble_eq_true rfl⟩ dX9_tempts_58 (fun H locs hI => ?_)
  refine lv_iload hx hb dX9_tempts_61 (lv_at hl 0 rfl) ?_
  refine lv_iconst (v := -1) hx hb dX9_tempts_63 (by decide) ?_
  refine lv_icmp_eq (tgt := 80) hx hb dX9_tempts_64 (by decide) (fun c_64 => ?_) (fun c_64 => ?_)
  · have h := (if_pos c_64).symm.trans h
    refine lv_iconst (v := 1) hx hb dX9_tempts_80 (by decide) ?_
    refine lv_goto (tgt := 85) hx hb dX9_tempts_81 (by decide) ?_
    have h := Option.some.inj h
    subst h
    exact hq _ _ _ _ _ _ _ (show (1 : Int32) &&& 1 = 1 from by decide) rfl (Nat.le_of_ble_eq_true rfl) (Nat.le_of_ble_eq_true rfl) hI dX9_tempts_85
  · have h := (if_neg c_64).symm.trans h
    refine lv_aload_n hx hb dX9_tempts_67 rfl (lv_at hl 2 rfl) ?_
    refine g_get F hI (by decide) gE_0 rfl ku_X9 2 (by decide) kf_X9_34 rfl dX9_tempts_68 ?_
    refine lv_iload_n hx hb dX9_tempts_71 rfl (lv_at hl 1 rfl) ?_
    refine g_callVi (E' := gE a cI s_58) (k0 := 3) (As := [.int (f_X1_cellOf σ x2)]) (rest := []) F hI (c_X6_costTo l D a cI F.2.2 s_58 (f_X1_cellOf σ x2)) kb_X6_costTo ki_X6_costTo ks_X6_costTo km_X9_211 ⟨Nat.le_of_ble_eq_true rfl, Nat.le_of_ble_eq_true rfl, rfl, rfl⟩ (by decide) gE_3 rfl hl.1 rfl (Nat.le_of_ble_eq_true rfl) ⟨Nat.le_of_ble_eq_true rfl, Nat.le_of_ble_eq_true rfl⟩ dX9_tempts_72 (fun H locs hI => ?_)
    refine lv_iload hx hb dX9_tempts_75 (lv_at hl 0 rfl) ?_
    refine lv_icmp_ge (tgt := 84) hx hb dX9_tempts_77 (by decide) (fun c_77 => ?_) (fun c_77 => ?_)
    · have h := (if_pos c_77).symm.trans h
      refine lv_iconst (v := 0) hx hb dX9_tempts_84 (by decide) ?_
      have h := Option.some.inj h
      subst h
      exact hq _ _ _ _ _ _ _ (show (0 : Int32) &&& 1 = 0 from by decide) rfl (Nat.le_of_ble_eq_true rfl) (Nat.le_of_ble_eq_true rfl) hI dX9_tempts_85
    · have h := (if_neg c_77).symm.trans h
      refine lv_iconst (v := 1) hx hb dX9_tempts_80 (by decide) ?_
      refine lv_goto (tgt := 85) hx hb dX9_tempts_81 (by decide) ?_
      have h := Option.some.inj h
      subst h
      exact hq _ _ _ _ _ _ _ (show (1 : Int32) &&& 1 = 1 from by decide) rfl (Nat.le_of_ble_eq_true rfl) (Nat.le_of_ble_eq_true rfl) hI dX9_tempts_85
/-- Spurline.courseAt(II)I -/
def f_X9_courseAt (σ : gSt) (x1 x2 : Int32) : Nat × Int32 × gSt :=
  if f_X9_needKlass x1 = 0 then
    if f_X9_needIndex x2 (f_X2_length σ x1) = 0 then
      (0, f_X2_controlAt σ x1 x2, σ)
    else
      (f_X9_needIndex x2 (f_X2_length σ x1), 0, σ)
  else
    (f_X9_needKlass x1, 0, σ)
abbrev rmX9_courseAt : Room := { frames := 8, cells := 2, slots := 12, locals := 123 }
theorem kb_X9_courseAt : g_CB yX9_courseAt cX9_courseAt 3 (some .int) 2 := ⟨kc_X9_courseAt, kn_X9, by decide +kernel⟩
set_option maxRecDepth 100000 in
set_option maxHeartbeats 4000000 in
theorem c_X9_courseAt (l : Launch) (D : va_G) (a : Nat → Nat) (cI : ClassId) (hj : g_Inj 65 a) (hlt : l.stackTraces = false) (sa : Nat → Nat) (σ : gSt) (x1 x2 : Int32) : vx_Met l yX9_courseAt (Cond.code yX9_courseAt cX9_courseAt 3 (some .int) :: gW) rmX9_courseAt (g_PcX 65 D a (gE a cI σ) [(cI, .int)] sa [.ref (a 0), .int x1, .int x2]) (g_QXi 65 D a (gE a cI (f_X9_courseAt σ x1 x2).2.2) (f_X9_courseAt σ x1 x2).1 (f_X9_courseAt σ x1 x2).2.1) (g_XC 65 D a (gE a cI (f_X9_courseAt σ x1 x2).2.2) (f_X9_courseAt σ x1 x2).1) 2 12 (g_Own 65 a) := by
  generalize hh : f_X9_courseAt σ x1 x2 = out
  refine g_mxi (by decide) hj hlt rfl (Nat.le_of_ble_eq_true rfl) ?_
  intro p e s m args below meth c Q ls F X hl hI hq hqx
  have hx := F.1.1
  have hb := F.1.2.1
  have hl : lv_has ls 3 [(0, .ref (a 0)), (1, .int x1), (2, .int x2)] := hl
  have h := hh
  unfold f_X9_courseAt at h
  refine lv_iload_n hx hb dX9_courseAt_0 rfl (lv_at hl 1 rfl) ?_
  refine g_callXSv (E' := gE a cI σ) (As := [.int x1]) (rest := []) F X hI (c_X9_needKlass l D a cI F.2.2 hlt sa σ x1) kb_X9_needKlass kt_X9_needKlass km_X9_125 ⟨Nat.le_of_ble_eq_true rfl, Nat.le_of_ble_eq_true rfl, rfl, rfl⟩ hl.1 rfl (Nat.le_of_ble_eq_true rfl) ⟨Nat.le_of_ble_eq_true rfl, Nat.le_of_ble_eq_true rfl⟩ dX9_courseAt_1 (fun H locs ce q9 hk hI h1 h2 h3 => ?_) (fun H locs hk hI => ?_)
  · have h := (if_neg hk).symm.trans h
    subst h
    exact hqx _ _ _ _ _ _ _ _ _ hk (Nat.le_of_ble_eq_true rfl) (Nat.le_of_ble_eq_true rfl) hI h1 h2 h3
  have h := (if_pos hk).symm.trans h
  refine lv_iload_n hx hb dX9_courseAt_4 rfl (lv_at hl 2 rfl) ?_
  refine lv_aload_n hx hb dX9_courseAt_5 rfl (lv_at hl 0 rfl) ?_
  refine g_get F hI (by decide) gE_0 rfl ku_X9 4 (by decide) kf_X9_48 rfl dX9_courseAt_6 ?_
  refine lv_iload_n hx hb dX9_courseAt_9 rfl (lv_at hl 1 rfl) ?_
  refine g_callVi (E' := gE a cI σ) (k0 := 5) (As := [.int x1]) (rest := [.int x2]) F hI (c_X2_length l D a cI F.2.2 σ x1) kb_X2_length ki_X2_length ks_X2_length km_X9_132 ⟨Nat.le_of_ble_eq_true rfl, Nat.le_of_ble_eq_true rfl, rfl, rfl⟩ (by decide) gE_5 rfl hl.1 rfl (Nat.le_of_ble_eq_true rfl) ⟨Nat.le_of_ble_eq_true rfl, Nat.le_of_ble_eq_true rfl⟩ dX9_courseAt_10 (fun H locs hI => ?_)
  refine g_callXSv (E' := gE a cI σ) (As := [.int x2, .int (f_X2_length σ x1)]) (rest := []) F X hI (c_X9_needIndex l D a cI F.2.2 hlt sa σ x2 (f_X2_length σ x1)) kb_X9_needIndex kt_X9_needIndex km_X9_220 ⟨Nat.le_of_ble_eq_true rfl, Nat.le_of_ble_eq_true rfl, rfl, rfl⟩ hl.1 rfl (Nat.le_of_ble_eq_true rfl) ⟨Nat.le_of_ble_eq_true rfl, Nat.le_of_ble_eq_true rfl⟩ dX9_courseAt_13 (fun H locs ce q9 hk hI h1 h2 h3 => ?_) (fun H locs hk hI => ?_)
  · have h := (if_neg hk).symm.trans h
    subst h
    exact hqx _ _ _ _ _ _ _ _ _ hk (Nat.le_of_ble_eq_true rfl) (Nat.le_of_ble_eq_true rfl) hI h1 h2 h3
  have h := (if_pos hk).symm.trans h
  refine lv_aload_n hx hb dX9_courseAt_16 rfl (lv_at hl 0 rfl) ?_
  refine g_get F hI (by decide) gE_0 rfl ku_X9 4 (by decide) kf_X9_48 rfl dX9_courseAt_17 ?_
  refine lv_iload_n hx hb dX9_courseAt_20 rfl (lv_at hl 1 rfl) ?_
  refine lv_iload_n hx hb dX9_courseAt_21 rfl (lv_at hl 2 rfl) ?_
  refine g_callVi (E' := gE a cI σ) (k0 := 5) (As := [.int x1, .int x2]) (rest := []) F hI (c_X2_controlAt l D a cI F.2.2 σ x1 x2) kb_X2_controlAt ki_X2_controlAt ks_X2_controlAt km_X9_223 ⟨Nat.le_of_ble_eq_true rfl, Nat.le_of_ble_eq_true rfl, rfl, rfl⟩ (by decide) gE_5 rfl hl.1 rfl (Nat.le_of_ble_eq_true rfl) ⟨Nat.le_of_ble_eq_true rfl, Nat.le_of_ble_eq_true rfl⟩ dX9_courseAt_22 (fun H locs hI => ?_)
  subst h
  exact hq _ _ _ _ _ _ rfl (Nat.le_of_ble_eq_true rfl) (Nat.le_of_ble_eq_true rfl) hI dX9_courseAt_25
/-- Spurline.courseClimb(I)I -/
def f_X9_courseClimb (N : Nat) (σ : gSt) (x1 : Int32) : Option (Nat × Int32 × gSt) :=
  if f_X9_needKlass x1 = 0 then
    (f_X4_measure N σ x1).bind (fun (s_9 : gSt) =>
    some (0, f_X4_measuredClimb s_9, s_9))
  else
    some (f_X9_needKlass x1, 0, σ)
abbrev rmX9_courseClimb : Room := { frames := 8, cells := 1, slots := 6, locals := 123 }
theorem kb_X9_courseClimb : g_CB yX9_courseClimb cX9_courseClimb 2 (some .int) 1 := ⟨kc_X9_courseClimb, kn_X9, by decide +kernel⟩
set_option maxRecDepth 100000 in
set_option maxHeartbeats 4000000 in
theorem c_X9_courseClimb (l : Launch) (D : va_G) (a : Nat → Nat) (cI : ClassId) (hj : g_Inj 65 a) (hlt : l.stackTraces = false) (sa : Nat → Nat) (N : Nat) (σ : gSt) (x1 : Int32) (out : Nat × Int32 × gSt) (hh : f_X9_courseClimb N σ x1 = some out) : vx_Met l yX9_courseClimb (Cond.code yX9_courseClimb cX9_courseClimb 2 (some .int) :: gW) rmX9_courseClimb (g_PcX 65 D a (gE a cI σ) [(cI, .int)] sa [.ref (a 0), .int x1]) (g_QXi 65 D a (gE a cI out.2.2) out.1 out.2.1) (g_XC 65 D a (gE a cI out.2.2) out.1) 1 6 (g_Own 65 a) := by
  refine g_mxi (by decide) hj hlt rfl (Nat.le_of_ble_eq_true rfl) ?_
  intro p e s m args below meth c Q ls F X hl hI hq hqx
  have hx := F.1.1
  have hb := F.1.2.1
  have hl : lv_has ls 2 [(0, .ref (a 0)), (1, .int x1)] := hl
  have h := hh
  unfold f_X9_courseClimb at h
  refine lv_iload_n hx hb dX9_courseClimb_0 rfl (lv_at hl 1 rfl) ?_
  refine g_callXSv (E' := gE a cI σ) (As := [.int x1]) (rest := []) F X hI (c_X9_needKlass l D a cI F.2.2 hlt sa σ x1) kb_X9_needKlass kt_X9_needKlass km_X9_125 ⟨Nat.le_of_ble_eq_true rfl, Nat.le_of_ble_eq_true rfl, rfl, rfl⟩ hl.1 rfl (Nat.le_of_ble_eq_true rfl) ⟨Nat.le_of_ble_eq_true rfl, Nat.le_of_ble_eq_true rfl⟩ dX9_courseClimb_1 (fun H locs ce q9 hk hI h1 h2 h3 => ?_) (fun H locs hk hI => ?_)
  · have h := (if_neg hk).symm.trans h
    have h := Option.some.inj h
    subst h
    exact hqx _ _ _ _ _ _ _ _ _ hk (Nat.le_of_ble_eq_true rfl) (Nat.le_of_ble_eq_true rfl) hI h1 h2 h3
  have h := (if_pos hk).symm.trans h
  refine lv_aload_n hx hb dX9_courseClimb_4 rfl (lv_at hl 0 rfl) ?_
  refine g_get F hI (by decide) gE_0 rfl ku_X9 5 (by decide) kf_X9_57 rfl dX9_courseClimb_5 ?_
  refine lv_iload_n hx hb dX9_courseClimb_8 rfl (lv_at hl 1 rfl) ?_
  obtain ⟨s_9, e_9, h⟩ := gBind_in h
  refine g_callVv (E' := gE a cI s_9) (k0 := 6) (As := [.int x1]) (rest := []) F hI (c_X4_measure l D a cI F.2.2 N σ x1 s_9 e_9) kb_X4_measure ki_X4_measure ks_X4_measure km_X9_149 ⟨Nat.le_of_ble_eq_true rfl, Nat.le_of_ble_eq_true rfl, rfl, rfl⟩ (by decide) gE_6 rfl hl.1 rfl (Nat.le_of_ble_eq_true rfl) ⟨Nat.le_of_ble_eq_true rfl, Nat.le_of_ble_eq_true rfl⟩ dX9_courseClimb_9 (fun H locs hI => ?_)
  refine lv_aload_n hx hb dX9_courseClimb_12 rfl (lv_at hl 0 rfl) ?_
  refine g_get F hI (by decide) gE_0 rfl ku_X9 5 (by decide) kf_X9_57 rfl dX9_courseClimb_13 ?_
  refine g_callVi (E' := gE a cI s_9) (k0 := 6) (As := []) (rest := []) F hI (c_X4_measuredClimb l D a cI F.2.2 s_9) kb_X4_measuredClimb ki_X4_measuredClimb ks_X4_measuredClimb km_X9_152 ⟨Nat.le_of_ble_eq_true rfl, Nat.le_of_ble_eq_true rfl, rfl, rfl⟩ (by decide) gE_6 rfl hl.1 rfl (Nat.le_of_ble_eq_true rfl) ⟨Nat.le_of_ble_eq_true rfl, Nat.le_of_ble_eq_true rfl⟩ dX9_courseClimb_16 (fun H locs hI => ?_)
  have h := Option.some.inj h
  subst h
  exact hq _ _ _ _ _ _ rfl (Nat.le_of_ble_eq_true rfl) (Nat.le_of_ble_eq_true rfl) hI dX9_courseClimb_19
/-- Spurline.courseCost(I)I -/
def f_X9_courseCost (N : Nat) (σ : gSt) (x1 : Int32) : Option (Nat × Int32 × gSt) :=
  if f_X9_needKlass x1 = 0 then
    (f_X4_measure N σ x1).bind (fun (s_9 : gSt) =>
    some (0, f_X4_measuredCost s_9, s_9))
  else
    some (f_X9_needKlass x1, 0, σ)
abbrev rmX9_courseCost : Room := { frames := 8, cells := 1, slots := 6, locals := 123 }
theorem kb_X9_courseCost : g_CB yX9_courseCost cX9_courseCost 2 (some .int) 1 := ⟨kc_X9_courseCost, kn_X9, by decide +kernel⟩
set_option maxRecDepth 100000 in
set_option maxHeartbeats 4000000 in
theorem c_X9_courseCost (l : Launch) (D : va_G) (a : Nat → Nat) (cI : ClassId) (hj : g_Inj 65 a) (hlt : l.stackTraces = false) (sa : Nat → Nat) (N : Nat) (σ : gSt) (x1 : Int32) (out : Nat × Int32 × gSt) (hh : f_X9_courseCost N σ x1 = some out) : vx_Met l yX9_courseCost (Cond.code yX9_courseCost cX9_courseCost 2 (some .int) :: gW) rmX9_courseCost (g_PcX 65 D a (gE a cI σ) [(cI, .int)] sa [.ref (a 0), .int x1]) (g_QXi 65 D a (gE a cI out.2.2) out.1 out.2.1) (g_XC 65 D a (gE a cI out.2.2) out.1) 1 6 (g_Own 65 a) := by
  refine g_mxi (by decide) hj hlt rfl (Nat.le_of_ble_eq_true rfl) ?_
  intro p e s m args below meth c Q ls F X hl hI hq hqx
  have hx := F.1.1
  have hb := F.1.2.1
  have hl : lv_has ls 2 [(0, .ref (a 0)), (1, .int x1)] := hl
  have h := hh
  unfold f_X9_courseCost at h
  refine lv_iload_n hx hb dX9_courseCost_0 rfl (lv_at hl 1 rfl) ?_
  refine g_callXSv (E' := gE a cI σ) (As := [.int x1]) (rest := []) F X hI (c_X9_needKlass l D a cI F.2.2 hlt sa σ x1) kb_X9_needKlass kt_X9_needKlass km_X9_125 ⟨Nat.le_of_ble_eq_true rfl, Nat.le_of_ble_eq_true rfl, rfl, rfl⟩ hl.1 rfl (Nat.le_of_ble_eq_true rfl) ⟨Nat.le_of_ble_eq_true rfl, Nat.le_of_ble_eq_true rfl⟩ dX9_courseCost_1 (fun H locs ce q9 hk hI h1 h2 h3 => ?_) (fun H locs hk hI => ?_)
  · have h := (if_neg hk).symm.trans h
    have h := Option.some.inj h
    subst h
    exact hqx _ _ _ _ _ _ _ _ _ hk (Nat.le_of_ble_eq_true rfl) (Nat.le_of_ble_eq_true rfl) hI h1 h2 h3
  have h := (if_pos hk).symm.trans h
  refine lv_aload_n hx hb dX9_courseCost_4 rfl (lv_at hl 0 rfl) ?_
  refine g_get F hI (by decide) gE_0 rfl ku_X9 5 (by decide) kf_X9_57 rfl dX9_courseCost_5 ?_
  refine lv_iload_n hx hb dX9_courseCost_8 rfl (lv_at hl 1 rfl) ?_
  obtain ⟨s_9, e_9, h⟩ := gBind_in h
  refine g_callVv (E' := gE a cI s_9) (k0 := 6) (As := [.int x1]) (rest := []) F hI (c_X4_measure l D a cI F.2.2 N σ x1 s_9 e_9) kb_X4_measure ki_X4_measure ks_X4_measure km_X9_149 ⟨Nat.le_of_ble_eq_true rfl, Nat.le_of_ble_eq_true rfl, rfl, rfl⟩ (by decide) gE_6 rfl hl.1 rfl (Nat.le_of_ble_eq_true rfl) ⟨Nat.le_of_ble_eq_true rfl, Nat.le_of_ble_eq_true rfl⟩ dX9_courseCost_9 (fun H locs hI => ?_)
  refine lv_aload_n hx hb dX9_courseCost_12 rfl (lv_at hl 0 rfl) ?_
  refine g_get F hI (by decide) gE_0 rfl ku_X9 5 (by decide) kf_X9_57 rfl dX9_courseCost_13 ?_
  refine g_callVi (E' := gE a cI s_9) (k0 := 6) (As := []) (rest := []) F hI (c_X4_measuredCost l D a cI F.2.2 s_9) kb_X4_measuredCost ki_X4_measuredCost ks_X4_measuredCost km_X9_226 ⟨Nat.le_of_ble_eq_true rfl, Nat.le_of_ble_eq_true rfl, rfl, rfl⟩ (by decide) gE_6 rfl hl.1 rfl (Nat.le_of_ble_eq_true rfl) ⟨Nat.le_of_ble_eq_true rfl, Nat.le_of_ble_eq_true rfl⟩ dX9_courseCost_16 (fun H locs hI => ?_)
  have h := Option.some.inj h
  subst h
  exact hq _ _ _ _ _ _ rfl (Nat.le_of_ble_eq_true rfl) (Nat.le_of_ble_eq_true rfl) hI dX9_courseCost_19
/-- Spurline.spread()I -/
def f_X9_spread (N : Nat) (σ : gSt) : Option (Int32 × gSt) :=
  (f_X4_differenceOfClimbs N σ).bind (fun (q_4 : Int32 × gSt) =>
  some (q_4.1, q_4.2))
abbrev rmX9_spread : Room := { frames := 6, cells := 0, slots := 0, locals := 141 }
theorem kb_X9_spread : g_CB yX9_spread cX9_spread 1 (some .int) 0 := ⟨kc_X9_spread, kn_X9, by decide +kernel⟩
set_option maxRecDepth 100000 in
set_option maxHeartbeats 4000000 in
theorem c_X9_spread (l : Launch) (D : va_G) (a : Nat → Nat) (cI : ClassId) (hj : g_Inj 65 a) (N : Nat) (σ : gSt) (out : Int32 × gSt) (hh : f_X9_spread N σ = some out) : Met l yX9_spread (Cond.code yX9_spread cX9_spread 1 (some .int) :: gW) rmX9_spread (g_Pc 65 D a (gE a cI σ) [(cI, .int)] [.ref (a 0)]) (g_Qi 65 D a (gE a cI out.2) out.1) 0 0 (g_Own 65 a) := by
  refine g_meti (by decide) hj (Nat.le_of_ble_eq_true rfl) ?_
  intro p e s m args below meth c Q ls F hl hI hq
  have hx := F.1.1
  have hb := F.1.2.1
  have hl : lv_has ls 1 [(0, .ref (a 0))] := hl
  have h := hh
  unfold f_X9_spread at h
  refine lv_aload_n hx hb dX9_spread_0 rfl (lv_at hl 0 rfl) ?_
  refine g_get F hI (by decide) gE_0 rfl ku_X9 5 (by decide) kf_X9_57 rfl dX9_spread_1 ?_
  obtain ⟨q_4, e_4, h⟩ := gBind_in h
  refine g_callVi (E' := gE a cI q_4.2) (k0 := 6) (As := []) (rest := []) F hI (c_X4_differenceOfClimbs l D a cI F.2.2 N σ q_4 e_4) kb_X4_differenceOfClimbs ki_X4_differenceOfClimbs ks_X4_differenceOfClimbs km_X9_229 ⟨Nat.le_of_ble_eq_true rfl, Nat.le_of_ble_eq_true rfl, rfl, rfl⟩ (by decide) gE_6 rfl hl.1 rfl (Nat.le_of_ble_eq_true rfl) ⟨Nat.zero_le _, Nat.zero_le _⟩ dX9_spread_4 (fun H locs hI => ?_)
  have h := Option.some.inj h
  subst h
  exact hq _ _ _ _ hI dX9_spread_7
/-- Spurline.runners()I -/
def f_X9_runners (σ : gSt) : Int32 :=
  f_X3_count σ
abbrev rmX9_runners : Room := { frames := 1, cells := 0, slots := 0, locals := 20 }
theorem kb_X9_runners : g_CB yX9_runners cX9_runners 1 (some .int) 0 := ⟨kc_X9_runners, kn_X9, by decide +kernel⟩
set_option maxRecDepth 100000 in
set_option maxHeartbeats 4000000 in
theorem c_X9_runners (l : Launch) (D : va_G) (a : Nat → Nat) (cI : ClassId) (hj : g_Inj 65 a) (σ : gSt) : Met l yX9_runners (Cond.code yX9_runners cX9_runners 1 (some .int) :: gW) rmX9_runners (g_Pc 65 D a (gE a cI σ) [(cI, .int)] [.ref (a 0)]) (g_Qi 65 D a (gE a cI σ) (f_X9_runners σ)) 0 0 (g_Own 65 a) := by
  generalize hh : f_X9_runners σ = out
  refine g_meti (by decide) hj (Nat.le_of_ble_eq_true rfl) ?_
  intro p e s m args below meth c Q ls F hl hI hq
  have hx := F.1.1
  have hb := F.1.2.1
  have hl : lv_has ls 1 [(0, .ref (a 0))] := hl
  have h := hh
  unfold f_X9_runners at h
  refine lv_aload_n hx hb dX9_runners_0 rfl (lv_at hl 0 rfl) ?_
  refine g_get F hI (by decide) gE_0 rfl ku_X9 6 (by decide) kf_X9_64 rfl dX9_runners_1 ?_
  refine g_callVi (E' := gE a cI σ) (k0 := 7) (As := []) (rest := []) F hI (c_X3_count l D a cI F.2.2 σ) kb_X3_count ki_X3_count ks_X3_count km_X9_155 ⟨Nat.le_of_ble_eq_true rfl, Nat.le_of_ble_eq_true rfl, rfl, rfl⟩ (by decide) gE_7 rfl hl.1 rfl (Nat.le_of_ble_eq_true rfl) ⟨Nat.zero_le _, Nat.zero_le _⟩ dX9_runners_4 (fun H locs hI => ?_)
  subst h
  exact hq _ _ _ _ hI dX9_runners_7
/-- Spurline.startOf(I)I -/
def f_X9_startOf (σ : gSt) (x1 : Int32) : Nat × Int32 × gSt :=
  if f_X9_needRunner σ x1 = 0 then
    (0, f_X3_startMinute σ x1, σ)
  else
    (f_X9_needRunner σ x1, 0, σ)
abbrev rmX9_startOf : Room := { frames := 8, cells := 1, slots := 6, locals := 124 }
theorem kb_X9_startOf : g_CB yX9_startOf cX9_startOf 2 (some .int) 1 := ⟨kc_X9_startOf, kn_X9, by decide +kernel⟩
set_option maxRecDepth 100000 in
set_option maxHeartbeats 4000000 in
theorem c_X9_startOf (l : Launch) (D : va_G) (a : Nat → Nat) (cI : ClassId) (hj : g_Inj 65 a) (hlt : l.stackTraces = false) (sa : Nat → Nat) (σ : gSt) (x1 : Int32) : vx_Met l yX9_startOf (Cond.code yX9_startOf cX9_startOf 2 (some .int) :: gW) rmX9_startOf (g_PcX 65 D a (gE a cI σ) [(cI, .int)] sa [.ref (a 0), .int x1]) (g_QXi 65 D a (gE a cI (f_X9_startOf σ x1).2.2) (f_X9_startOf σ x1).1 (f_X9_startOf σ x1).2.1) (g_XC 65 D a (gE a cI (f_X9_startOf σ x1).2.2) (f_X9_startOf σ x1).1) 1 6 (g_Own 65 a) := by
  generalize hh : f_X9_startOf σ x1 = out
  refine g_mxi (by decide) hj hlt rfl (Nat.le_of_ble_eq_true rfl) ?_
  intro p e s m args below meth c Q ls F X hl hI hq hqx
  have hx := F.1.1
  have hb := F.1.2.1
  have hl : lv_has ls 2 [(0, .ref (a 0)), (1, .int x1)] := hl
  have h := hh
  unfold f_X9_startOf at h
  refine lv_aload_n hx hb dX9_startOf_0 rfl (lv_at hl 0 rfl) ?_
  refine lv_iload_n hx hb dX9_startOf_1 rfl (lv_at hl 1 rfl) ?_
  refine g_callXVv (E' := gE a cI σ) (k0 := 0) (As := [.int x1]) (rest := []) F X hI (c_X9_needRunner l D a cI F.2.2 hlt sa σ x1) kb_X9_needRunner ki_X9_needRunner ks_X9_needRunner km_X9_161 ⟨Nat.le_of_ble_eq_true rfl, Nat.le_of_ble_eq_true rfl, rfl, rfl⟩ (by decide) gE_0 rfl hl.1 rfl (Nat.le_of_ble_eq_true rfl) ⟨Nat.le_of_ble_eq_true rfl, Nat.le_of_ble_eq_true rfl⟩ dX9_startOf_2 (fun H locs ce q9 hk hI h1 h2 h3 => ?_) (fun H locs hk hI => ?_)
  · have h := (if_neg hk).symm.trans h
    subst h
    exact hqx _ _ _ _ _ _ _ _ _ hk (Nat.le_of_ble_eq_true rfl) (Nat.le_of_ble_eq_true rfl) hI h1 h2 h3
  have h := (if_pos hk).symm.trans h
  refine lv_aload_n hx hb dX9_startOf_5 rfl (lv_at hl 0 rfl) ?_
  refine g_get F hI (by decide) gE_0 rfl ku_X9 6 (by decide) kf_X9_64 rfl dX9_startOf_6 ?_
  refine lv_iload_n hx hb dX9_startOf_9 rfl (lv_at hl 1 rfl) ?_
  refine g_callVi (E' := gE a cI σ) (k0 := 7) (As := [.int x1]) (rest := []) F hI (c_X3_startMinute l D a cI F.2.2 σ x1) kb_X3_startMinute ki_X3_startMinute ks_X3_startMinute km_X9_232 ⟨Nat.le_of_ble_eq_true rfl, Nat.le_of_ble_eq_true rfl, rfl, rfl⟩ (by decide) gE_7 rfl hl.1 rfl (Nat.le_of_ble_eq_true rfl) ⟨Nat.le_of_ble_eq_true rfl, Nat.le_of_ble_eq_true rfl⟩ dX9_startOf_10 (fun H locs hI => ?_)
  subst h
  exact hq _ _ _ _ _ _ rfl (Nat.le_of_ble_eq_true rfl) (Nat.le_of_ble_eq_true rfl) hI dX9_startOf_13
/-- Spurline.stateOf(I)I -/
def f_X9_stateOf (N : Nat) (σ : gSt) (x1 : Int32) : Option (Nat × Int32 × gSt) :=
  if f_X9_needRunner σ x1 = 0 then
    (f_X5_reckon N σ).bind (fun (s_9 : gSt) =>
    some (0, f_X5_state s_9 x1, s_9))
  else
    some (f_X9_needRunner σ x1, 0, σ)
abbrev rmX9_stateOf : Room := { frames := 8, cells := 1, slots := 6, locals := 124 }
theorem kb_X9_stateOf : g_CB yX9_stateOf cX9_stateOf 2 (some .int) 1 := ⟨kc_X9_stateOf, kn_X9, by decide +kernel⟩
set_option maxRecDepth 100000 in
set_option maxHeartbeats 4000000 in
theorem c_X9_stateOf (l : Launch) (D : va_G) (a : Nat → Nat) (cI : ClassId) (hj : g_Inj 65 a) (hlt : l.stackTraces = false) (sa : Nat → Nat) (N : Nat) (σ : gSt) (x1 : Int32) (out : Nat × Int32 × gSt) (hh : f_X9_stateOf N σ x1 = some out) : vx_Met l yX9_stateOf (Cond.code yX9_stateOf cX9_stateOf 2 (some .int) :: gW) rmX9_stateOf (g_PcX 65 D a (gE a cI σ) [(cI, .int)] sa [.ref (a 0), .int x1]) (g_QXi 65 D a (gE a cI out.2.2) out.1 out.2.1) (g_XC 65 D a (gE a cI out.2.2) out.1) 1 6 (g_Own 65 a) := by
  refine g_mxi (by decide) hj hlt rfl (Nat.le_of_ble_eq_true rfl) ?_
  intro p e s m args below meth c Q ls F X hl hI hq hqx
  have hx := F.1.1
  have hb := F.1.2.1
  have hl : lv_has ls 2 [(0, .ref (a 0)), (1, .int x1)] := hl
  have h := hh
  unfold f_X9_stateOf at h
  refine lv_aload_n hx hb dX9_stateOf_0 rfl (lv_at hl 0 rfl) ?_
  refine lv_iload_n hx hb dX9_stateOf_1 rfl (lv_at hl 1 rfl) ?_
  refine g_callXVv (E' := gE a cI σ) (k0 := 0) (As := [.int x1]) (rest := []) F X hI (c_X9_needRunner l D a cI F.2.2 hlt sa σ x1) kb_X9_needRunner ki_X9_needRunner ks_X9_needRunner km_X9_161 ⟨Nat.le_of_ble_eq_true rfl, Nat.le_of_ble_eq_true rfl, rfl, rfl⟩ (by decide) gE_0 rfl hl.1 rfl (Nat.le_of_ble_eq_true rfl) ⟨Nat.le_of_ble_eq_true rfl, Nat.le_of_ble_eq_true rfl⟩ dX9_stateOf_2 (fun H locs ce q9 hk hI h1 h2 h3 => ?_) (fun H locs hk hI => ?_)
  · have h := (if_neg hk).symm.trans h
    have h := Option.some.inj h
    subst h
    exact hqx _ _ _ _ _ _ _ _ _ hk (Nat.le_of_ble_eq_true rfl) (Nat.le_of_ble_eq_true rfl) hI h1 h2 h3
  have h := (if_pos hk).symm.trans h
  refine lv_aload_n hx hb dX9_stateOf_5 rfl (lv_at hl 0 rfl) ?_
  refine g_get F hI (by decide) gE_0 rfl ku_X9 7 (by decide) kf_X9_73 rfl dX9_stateOf_6 ?_
  obtain ⟨s_9, e_9, h⟩ := gBind_in h
  refine g_callVv (E' := gE a cI s_9) (k0 := 8) (As := []) (rest := []) F hI (c_X5_reckon l D a cI F.2.2 N σ s_9 e_9) kb_X5_reckon ki_X5_reckon ks_X5_reckon km_X9_173 ⟨Nat.le_of_ble_eq_true rfl, Nat.le_of_ble_eq_true rfl, rfl, rfl⟩ (by decide) gE_8 rfl hl.1 rfl (Nat.le_of_ble_eq_true rfl) ⟨Nat.le_of_ble_eq_true rfl, Nat.le_of_ble_eq_true rfl⟩ dX9_stateOf_9 (fun H locs hI => ?_)
  refine lv_aload_n hx hb dX9_stateOf_12 rfl (lv_at hl 0 rfl) ?_
  refine g_get F hI (by decide) gE_0 rfl ku_X9 7 (by decide) kf_X9_73 rfl dX9_stateOf_13 ?_
  refine lv_iload_n hx hb dX9_stateOf_16 rfl (lv_at hl 1 rfl) ?_
  refine g_callVi (E' := gE a cI s_9) (k0 := 8) (As := [.int x1]) (rest := []) F hI (c_X5_state l D a cI F.2.2 s_9 x1) kb_X5_state ki_X5_state ks_X5_state km_X9_235 ⟨Nat.le_of_ble_eq_true rfl, Nat.le_of_ble_eq_true rfl, rfl, rfl⟩ (by decide) gE_8 rfl hl.1 rfl (Nat.le_of_ble_eq_true rfl) ⟨Nat.le_of_ble_eq_true rfl, Nat.le_of_ble_eq_true rfl⟩ dX9_stateOf_17 (fun H locs hI => ?_)
  have h := Option.some.inj h
  subst h
  exact hq _ _ _ _ _ _ rfl (Nat.le_of_ble_eq_true rfl) (Nat.le_of_ble_eq_true rfl) hI dX9_stateOf_20
/-- Spurline.needLeg(II)V -/
def f_X9_needLeg (σ : gSt) (x1 x2 : Int32) : Nat :=
  if f_X9_needIndex x2 (f_X2_legs σ (f_X3_klassOf σ x1)) = 0 then
    0
  else
    f_X9_needIndex x2 (f_X2_legs σ (f_X3_klassOf σ x1))
abbrev rmX9_needLeg : Room := { frames := 7, cells := 1, slots := 6, locals := 103 }
theorem kb_X9_needLeg : g_CB yX9_needLeg cX9_needLeg 3 none 2 := ⟨kc_X9_needLeg, kn_X9, by decide +kernel⟩
set_option maxRecDepth 100000 in
set_option maxHeartbeats 4000000 in
theorem c_X9_needLeg (l : Launch) (D : va_G) (a : Nat → Nat) (cI : ClassId) (hj : g_Inj 65 a) (hlt : l.stackTraces = false) (sa : Nat → Nat) (σ : gSt) (x1 x2 : Int32) : vx_Met l yX9_needLeg (Cond.code yX9_needLeg cX9_needLeg 3 none :: gW) rmX9_needLeg (g_PcX 65 D a (gE a cI σ) [(cI, .int)] sa [.ref (a 0), .int x1, .int x2]) (g_QXv 65 D a (gE a cI σ) (f_X9_needLeg σ x1 x2)) (g_XC 65 D a (gE a cI σ) (f_X9_needLeg σ x1 x2)) 1 6 (g_Own 65 a) := by
  generalize hh : f_X9_needLeg σ x1 x2 = out
  refine g_mxv (by decide) hj hlt rfl (Nat.le_of_ble_eq_true rfl) ?_
  intro p e s m args below meth c Q ls F X hl hI hq hqx htr
  have hx := F.1.1
  have hb := F.1.2.1
  have hl : lv_has ls 3 [(0, .ref (a 0)), (1, .int x1), (2, .int x2)] := hl
  have h := hh
  unfold f_X9_needLeg at h
  refine lv_iload_n hx hb dX9_needLeg_0 rfl (lv_at hl 2 rfl) ?_
  refine lv_aload_n hx hb dX9_needLeg_1 rfl (lv_at hl 0 rfl) ?_
  refine g_get F hI (by decide) gE_0 rfl ku_X9 4 (by decide) kf_X9_48 rfl dX9_needLeg_2 ?_
  refine lv_aload_n hx hb dX9_needLeg_5 rfl (lv_at hl 0 rfl) ?_
  refine g_get F hI (by decide) gE_0 rfl ku_X9 6 (by decide) kf_X9_64 rfl dX9_needLeg_6 ?_
  refine lv_iload_n hx hb dX9_needLeg_9 rfl (lv_at hl 1 rfl) ?_
  refine g_callVi (E' := gE a cI σ) (k0 := 7) (As := [.int x1]) (rest := [.ref (a 5), .int x2]) F hI (c_X3_klassOf l D a cI F.2.2 σ x1) kb_X3_klassOf ki_X3_klassOf ks_X3_klassOf km_X9_263 ⟨Nat.le_of_ble_eq_true rfl, Nat.le_of_ble_eq_true rfl, rfl, rfl⟩ (by decide) gE_7 rfl hl.1 rfl (Nat.le_of_ble_eq_true rfl) ⟨Nat.le_of_ble_eq_true rfl, Nat.le_of_ble_eq_true rfl⟩ dX9_needLeg_10 (fun H locs hI => ?_)
  refine g_callVi (E' := gE a cI σ) (k0 := 5) (As := [.int (f_X3_klassOf σ x1)]) (rest := [.int x2]) F hI (c_X2_legs l D a cI F.2.2 σ (f_X3_klassOf σ x1)) kb_X2_legs ki_X2_legs ks_X2_legs km_X9_266 ⟨Nat.le_of_ble_eq_true rfl, Nat.le_of_ble_eq_true rfl, rfl, rfl⟩ (by decide) gE_5 rfl hl.1 rfl (Nat.le_of_ble_eq_true rfl) ⟨Nat.le_of_ble_eq_true rfl, Nat.le_of_ble_eq_true rfl⟩ dX9_needLeg_13 (fun H locs hI => ?_)
  refine g_callXSv (E' := gE a cI σ) (As := [.int x2, .int (f_X2_legs σ (f_X3_klassOf σ x1))]) (rest := []) F X hI (c_X9_needIndex l D a cI F.2.2 hlt sa σ x2 (f_X2_legs σ (f_X3_klassOf σ x1))) kb_X9_needIndex kt_X9_needIndex km_X9_220 ⟨Nat.le_of_ble_eq_true rfl, Nat.le_of_ble_eq_true rfl, rfl, rfl⟩ hl.1 rfl (Nat.le_of_ble_eq_true rfl) ⟨Nat.le_of_ble_eq_true rfl, Nat.le_of_ble_eq_true rfl⟩ dX9_needLeg_16 (fun H locs ce q9 hk hI h1 h2 h3 => ?_) (fun H locs hk hI => ?_)
  · have h := (if_neg hk).symm.trans h
    subst h
    exact hqx _ _ _ _ _ _ _ _ _ hk (Nat.le_of_ble_eq_true rfl) (Nat.le_of_ble_eq_true rfl) hI h1 h2 h3
  have h := (if_pos hk).symm.trans h
  subst h
  exact hq _ _ _ _ _ _ rfl (Nat.le_of_ble_eq_true rfl) (Nat.le_of_ble_eq_true rfl) hI dX9_needLeg_19
/-- Spurline.split(II)I -/
def f_X9_split (N : Nat) (σ : gSt) (x1 x2 : Int32) : Option (Nat × Int32 × gSt) :=
  if f_X9_needRunner σ x1 = 0 then
    if f_X9_needLeg σ x1 x2 = 0 then
      (f_X5_reckon N σ).bind (fun (s_15 : gSt) =>
      some (0, f_X5_splitMinutes s_15 x1 x2, s_15))
    else
      some (f_X9_needLeg σ x1 x2, 0, σ)
  else
    some (f_X9_needRunner σ x1, 0, σ)
abbrev rmX9_split : Room := { frames := 8, cells := 2, slots := 12, locals := 125 }
theorem kb_X9_split : g_CB yX9_split cX9_split 3 (some .int) 2 := ⟨kc_X9_split, kn_X9, by decide +kernel⟩
set_option maxRecDepth 100000 in
set_option maxHeartbeats 4000000 in
theorem c_X9_split (l : Launch) (D : va_G) (a : Nat → Nat) (cI : ClassId) (hj : g_Inj 65 a) (hlt : l.stackTraces = false) (sa : Nat → Nat) (N : Nat) (σ : gSt) (x1 x2 : Int32) (out : Nat × Int32 × gSt) (hh : f_X9_split N σ x1 x2 = some out) : vx_Met l yX9_split (Cond.code yX9_split cX9_split 3 (some .int) :: gW) rmX9_split (g_PcX 65 D a (gE a cI σ) [(cI, .int)] sa [.ref (a 0), .int x1, .int x2]) (g_QXi 65 D a (gE a cI out.2.2) out.1 out.2.1) (g_XC 65 D a (gE a cI out.2.2) out.1) 2 12 (g_Own 65 a) := by
  refine g_mxi (by decide) hj hlt rfl (Nat.le_of_ble_eq_true rfl) ?_
  intro p e s m args below meth c Q ls F X hl hI hq hqx
  have hx := F.1.1
  have hb := F.1.2.1
  have hl : lv_has ls 3 [(0, .ref (a 0)), (1, .int x1), (2, .int x2)] := hl
  have h := hh
  unfold f_X9_split at h
  refine lv_aload_n hx hb dX9_split_0 rfl (lv_at hl 0 rfl) ?_
  refine lv_iload_n hx hb dX9_split_1 rfl (lv_at hl 1 rfl) ?_
  refine g_callXVv (E' := gE a cI σ) (k0 := 0) (As := [.int x1]) (rest := []) F X hI (c_X9_needRunner l D a cI F.2.2 hlt sa σ x1) kb_X9_needRunner ki_X9_needRunner ks_X9_needRunner km_X9_161 ⟨Nat.le_of_ble_eq_true rfl, Nat.le_of_ble_eq_true rfl, rfl, rfl⟩ (by decide) gE_0 rfl hl.1 rfl (Nat.le_of_ble_eq_true rfl) ⟨Nat.le_of_ble_eq_true rfl, Nat.le_of_ble_eq_true rfl⟩ dX9_split_2 (fun H locs ce q9 hk hI h1 h2 h3 => ?_) (fun H locs hk hI => ?_)
  · have h := (if_neg hk).symm.trans h
    have h := Option.some.inj h
    subst h
    exact hqx _ _ _ _ _ _ _ _ _ hk (Nat.le_of_ble_eq_true rfl) (Nat.le_of_ble_eq_true rfl) hI h1 h2 h3
  have h := (if_pos hk).symm.trans h
  refine lv_aload_n hx hb dX9_split_5 rfl (lv_at hl 0 rfl) ?_
  refine lv_iload_n hx hb dX9_split_6 rfl (lv_at hl 1 rfl) ?_
  refine lv_iload_n hx hb dX9_split_7 rfl (lv_at hl 2 rfl) ?_
  refine g_callXVv (E' := gE a cI σ) (k0 := 0) (As := [.int x1, .int x2]) (rest := []) F X hI (c_X9_needLeg l D a cI F.2.2 hlt sa σ x1 x2) kb_X9_needLeg ki_X9_needLeg ks_X9_needLeg km_X9_238 ⟨Nat.le_of_ble_eq_true rfl, Nat.le_of_ble_eq_true rfl, rfl, rfl⟩ (by decide) gE_0 rfl hl.1 rfl (Nat.le_of_ble_eq_true rfl) ⟨Nat.le_of_ble_eq_true rfl, Nat.le_of_ble_eq_true rfl⟩ dX9_split_8 (fun H locs ce q9 hk hI h1 h2 h3 => ?_) (fun H locs hk hI => ?_)
  · have h := (if_neg hk).symm.trans h
    have h := Option.some.inj h
    subst h
    exact hqx _ _ _ _ _ _ _ _ _ hk (Nat.le_of_ble_eq_true rfl) (Nat.le_of_ble_eq_true rfl) hI h1 h2 h3
  have h := (if_pos hk).symm.trans h
  refine lv_aload_n hx hb dX9_split_11 rfl (lv_at hl 0 rfl) ?_
  refine g_get F hI (by decide) gE_0 rfl ku_X9 7 (by decide) kf_X9_73 rfl dX9_split_12 ?_
  obtain ⟨s_15, e_15, h⟩ := gBind_in h
  refine g_callVv (E' := gE a cI s_15) (k0 := 8) (As := []) (rest := []) F hI (c_X5_reckon l D a cI F.2.2 N σ s_15 e_15) kb_X5_reckon ki_X5_reckon ks_X5_reckon km_X9_173 ⟨Nat.le_of_ble_eq_true rfl, Nat.le_of_ble_eq_true rfl, rfl, rfl⟩ (by decide) gE_8 rfl hl.1 rfl (Nat.le_of_ble_eq_true rfl) ⟨Nat.le_of_ble_eq_true rfl, Nat.le_of_ble_eq_true rfl⟩ dX9_split_15 (fun H locs hI => ?_)
  refine lv_aload_n hx hb dX9_split_18 rfl (lv_at hl 0 rfl) ?_
  refine g_get F hI (by decide) gE_0 rfl ku_X9 7 (by decide) kf_X9_73 rfl dX9_split_19 ?_
  refine lv_iload_n hx hb dX9_split_22 rfl (lv_at hl 1 rfl) ?_
  refine lv_iload_n hx hb dX9_split_23 rfl (lv_at hl 2 rfl) ?_
  refine g_callVi (E' := gE a cI s_15) (k0 := 8) (As := [.int x1, .int x2]) (rest := []) F hI (c_X5_splitMinutes l D a cI F.2.2 s_15 x1 x2) kb_X5_splitMinutes ki_X5_splitMinutes ks_X5_splitMinutes km_X9_241 ⟨Nat.le_of_ble_eq_true rfl, Nat.le_of_ble_eq_true rfl, rfl, rfl⟩ (by decide) gE_8 rfl hl.1 rfl (Nat.le_of_ble_eq_true rfl) ⟨Nat.le_of_ble_eq_true rfl, Nat.le_of_ble_eq_true rfl⟩ dX9_split_24 (fun H locs hI => ?_)
  have h := Option.some.inj h
  subst h
  exact hq _ _ _ _ _ _ rfl (Nat.le_of_ble_eq_true rfl) (Nat.le_of_ble_eq_true rfl) hI dX9_split_27
/-- Spurline.total(I)I -/
def f_X9_total (N : Nat) (σ : gSt) (x1 : Int32) : Option (Nat × Int32 × gSt) :=
  if f_X9_needRunner σ x1 = 0 then
    (f_X5_reckon N σ).bind (fun (s_9 : gSt) =>
    some (0, f_X5_totalMinutes s_9 x1, s_9))
  else
    some (f_X9_needRunner σ x1, 0, σ)
abbrev rmX9_total : Room := { frames := 8, cells := 1, slots := 6, locals := 124 }
theorem kb_X9_total : g_CB yX9_total cX9_total 2 (some .int) 1 := ⟨kc_X9_total, kn_X9, by decide +kernel⟩
set_option maxRecDepth 100000 in
set_option maxHeartbeats 4000000 in
theorem c_X9_total (l : Launch) (D : va_G) (a : Nat → Nat) (cI : ClassId) (hj : g_Inj 65 a) (hlt : l.stackTraces = false) (sa : Nat → Nat) (N : Nat) (σ : gSt) (x1 : Int32) (out : Nat × Int32 × gSt) (hh : f_X9_total N σ x1 = some out) : vx_Met l yX9_total (Cond.code yX9_total cX9_total 2 (some .int) :: gW) rmX9_total (g_PcX 65 D a (gE a cI σ) [(cI, .int)] sa [.ref (a 0), .int x1]) (g_QXi 65 D a (gE a cI out.2.2) out.1 out.2.1) (g_XC 65 D a (gE a cI out.2.2) out.1) 1 6 (g_Own 65 a) := by
  refine g_mxi (by decide) hj hlt rfl (Nat.le_of_ble_eq_true rfl) ?_
  intro p e s m args below meth c Q ls F X hl hI hq hqx
  have hx := F.1.1
  have hb := F.1.2.1
  have hl : lv_has ls 2 [(0, .ref (a 0)), (1, .int x1)] := hl
  have h := hh
  unfold f_X9_total at h
  refine lv_aload_n hx hb dX9_total_0 rfl (lv_at hl 0 rfl) ?_
  refine lv_iload_n hx hb dX9_total_1 rfl (lv_at hl 1 rfl) ?_
  refine g_callXVv (E' := gE a cI σ) (k0 := 0) (As := [.int x1]) (rest := []) F X hI (c_X9_needRunner l D a cI F.2.2 hlt sa σ x1) kb_X9_needRunner ki_X9_needRunner ks_X9_needRunner km_X9_161 ⟨Nat.le_of_ble_eq_true rfl, Nat.le_of_ble_eq_true rfl, rfl, rfl⟩ (by decide) gE_0 rfl hl.1 rfl (Nat.le_of_ble_eq_true rfl) ⟨Nat.le_of_ble_eq_true rfl, Nat.le_of_ble_eq_true rfl⟩ dX9_total_2 (fun H locs ce q9 hk hI h1 h2 h3 => ?_) (fun H locs hk hI => ?_)
  · have h := (if_neg hk).symm.trans h
    have h := Option.some.inj h
    subst h
    exact hqx _ _ _ _ _ _ _ _ _ hk (Nat.le_of_ble_eq_true rfl) (Nat.le_of_ble_eq_true rfl) hI h1 h2 h3
  have h := (if_pos hk).symm.trans h
  refine lv_aload_n hx hb dX9_total_5 rfl (lv_at hl 0 rfl) ?_
  refine g_get F hI (by decide) gE_0 rfl ku_X9 7 (by decide) kf_X9_73 rfl dX9_total_6 ?_
  obtain ⟨s_9, e_9, h⟩ := gBind_in h
  refine g_callVv (E' := gE a cI s_9) (k0 := 8) (As := []) (rest := []) F hI (c_X5_reckon l D a cI F.2.2 N σ s_9 e_9) kb_X5_reckon ki_X5_reckon ks_X5_reckon km_X9_173 ⟨Nat.le_of_ble_eq_true rfl, Nat.le_of_ble_eq_true rfl, rfl, rfl⟩ (by decide) gE_8 rfl hl.1 rfl (Nat.le_of_ble_eq_true rfl) ⟨Nat.le_of_ble_eq_true rfl, Nat.le_of_ble_eq_true rfl⟩ dX9_total_9 (fun H locs hI => ?_)
  refine lv_aload_n hx hb dX9_total_12 rfl (lv_at hl 0 rfl) ?_
  refine g_get F hI (by decide) gE_0 rfl ku_X9 7 (by decide) kf_X9_73 rfl dX9_total_13 ?_
  refine lv_iload_n hx hb dX9_total_16 rfl (lv_at hl 1 rfl) ?_
  refine g_callVi (E' := gE a cI s_9) (k0 := 8) (As := [.int x1]) (rest := []) F hI (c_X5_totalMinutes l D a cI F.2.2 s_9 x1) kb_X5_totalMinutes ki_X5_totalMinutes ks_X5_totalMinutes km_X9_244 ⟨Nat.le_of_ble_eq_true rfl, Nat.le_of_ble_eq_true rfl, rfl, rfl⟩ (by decide) gE_8 rfl hl.1 rfl (Nat.le_of_ble_eq_true rfl) ⟨Nat.le_of_ble_eq_true rfl, Nat.le_of_ble_eq_true rfl⟩ dX9_total_17 (fun H locs hI => ?_)
  have h := Option.some.inj h
  subst h
  exact hq _ _ _ _ _ _ rfl (Nat.le_of_ble_eq_true rfl) (Nat.le_of_ble_eq_true rfl) hI dX9_total_20
/-- Spurline.rank(I)I -/
def f_X9_rank (N : Nat) (σ : gSt) (x1 : Int32) : Option (Nat × Int32 × gSt) :=
  if f_X9_needRunner σ x1 = 0 then
    (f_X5_reckon N σ).bind (fun (s_9 : gSt) =>
    (f_X5_place N s_9 x1).bind (fun (r_17 : Int32) =>
    some (0, r_17, s_9)))
  else
    some (f_X9_needRunner σ x1, 0, σ)
abbrev rmX9_rank : Room := { frames := 8, cells := 1, slots := 6, locals := 124 }
theorem kb_X9_rank : g_CB yX9_rank cX9_rank 2 (some .int) 1 := ⟨kc_X9_rank, kn_X9, by decide +kernel⟩
set_option maxRecDepth 100000 in
set_option maxHeartbeats 4000000 in
theorem c_X9_rank (l : Launch) (D : va_G) (a : Nat → Nat) (cI : ClassId) (hj : g_Inj 65 a) (hlt : l.stackTraces = false) (sa : Nat → Nat) (N : Nat) (σ : gSt) (x1 : Int32) (out : Nat × Int32 × gSt) (hh : f_X9_rank N σ x1 = some out) : vx_Met l yX9_rank (Cond.code yX9_rank cX9_rank 2 (some .int) :: gW) rmX9_rank (g_PcX 65 D a (gE a cI σ) [(cI, .int)] sa [.ref (a 0), .int x1]) (g_QXi 65 D a (gE a cI out.2.2) out.1 out.2.1) (g_XC 65 D a (gE a cI out.2.2) out.1) 1 6 (g_Own 65 a) := by
  refine g_mxi (by decide) hj hlt rfl (Nat.le_of_ble_eq_true rfl) ?_
  intro p e s m args below meth c Q ls F X hl hI hq hqx
  have hx := F.1.1
  have hb := F.1.2.1
  have hl : lv_has ls 2 [(0, .ref (a 0)), (1, .int x1)] := hl
  have h := hh
  unfold f_X9_rank at h
  refine lv_aload_n hx hb dX9_rank_0 rfl (lv_at hl 0 rfl) ?_
  refine lv_iload_n hx hb dX9_rank_1 rfl (lv_at hl 1 rfl) ?_
  refine g_callXVv (E' := gE a cI σ) (k0 := 0) (As := [.int x1]) (rest := []) F X hI (c_X9_needRunner l D a cI F.2.2 hlt sa σ x1) kb_X9_needRunner ki_X9_needRunner ks_X9_needRunner km_X9_161 ⟨Nat.le_of_ble_eq_true rfl, Nat.le_of_ble_eq_true rfl, rfl, rfl⟩ (by decide) gE_0 rfl hl.1 rfl (Nat.le_of_ble_eq_true rfl) ⟨Nat.le_of_ble_eq_true rfl, Nat.le_of_ble_eq_true rfl⟩ dX9_rank_2 (fun H locs ce q9 hk hI h1 h2 h3 => ?_) (fun H locs hk hI => ?_)
  · have h := (if_neg hk).symm.trans h
    have h := Option.some.inj h
    subst h
    exact hqx _ _ _ _ _ _ _ _ _ hk (Nat.le_of_ble_eq_true rfl) (Nat.le_of_ble_eq_true rfl) hI h1 h2 h3
  have h := (if_pos hk).symm.trans h
  refine lv_aload_n hx hb dX9_rank_5 rfl (lv_at hl 0 rfl) ?_
  refine g_get F hI (by decide) gE_0 rfl ku_X9 7 (by decide) kf_X9_73 rfl dX9_rank_6 ?_
  obtain ⟨s_9, e_9, h⟩ := gBind_in h
  refine g_callVv (E' := gE a cI s_9) (k0 := 8) (As := []) (rest := []) F hI (c_X5_reckon l D a cI F.2.2 N σ s_9 e_9) kb_X5_reckon ki_X5_reckon ks_X5_reckon km_X9_173 ⟨Nat.le_of_ble_eq_true rfl, Nat.le_of_ble_eq_true rfl, rfl, rfl⟩ (by decide) gE_8 rfl hl.1 rfl (Nat.le_of_ble_eq_true rfl) ⟨Nat.le_of_ble_eq_true rfl, Nat.le_of_ble_eq_true rfl⟩ dX9_rank_9 (fun H locs hI => ?_)
  refine lv_aload_n hx hb dX9_rank_12 rfl (lv_at hl 0 rfl) ?_
  refine g_get F hI (by decide) gE_0 rfl ku_X9 7 (by decide) kf_X9_73 rfl dX9_rank_13 ?_
  refine lv_iload_n hx hb dX9_rank_16 rfl (lv_at hl 1 rfl) ?_
  obtain ⟨r_17, e_17, h⟩ := gBind_in h
  refine g_callVi (E' := gE a cI s_9) (k0 := 8) (As := [.int x1]) (rest := []) F hI (c_X5_place l D a cI F.2.2 N s_9 x1 r_17 e_17) kb_X5_place ki_X5_place ks_X5_place km_X9_247 ⟨Nat.le_of_ble_eq_true rfl, Nat.le_of_ble_eq_true rfl, rfl, rfl⟩ (by decide) gE_8 rfl hl.1 rfl (Nat.le_of_ble_eq_true rfl) ⟨Nat.le_of_ble_eq_true rfl, Nat.le_of_ble_eq_true rfl⟩ dX9_rank_17 (fun H locs hI => ?_)
  have h := Option.some.inj h
  subst h
  exact hq _ _ _ _ _ _ rfl (Nat.le_of_ble_eq_true rfl) (Nat.le_of_ble_eq_true rfl) hI dX9_rank_20
/-- Spurline.lost(II)I -/
def f_X9_lost (N : Nat) (σ : gSt) (x1 x2 : Int32) : Option (Nat × Int32 × gSt) :=
  if f_X9_needRunner σ x1 = 0 then
    if f_X9_needLeg σ x1 x2 = 0 then
      (f_X5_reckon N σ).bind (fun (s_15 : gSt) =>
      (f_X5_lostMinutes N s_15 x1 x2).bind (fun (r_24 : Int32) =>
      some (0, r_24, s_15)))
    else
      some (f_X9_needLeg σ x1 x2, 0, σ)
  else
    some (f_X9_needRunner σ x1, 0, σ)
abbrev rmX9_lost : Room := { frames := 8, cells := 2, slots := 12, locals := 143 }
theorem kb_X9_lost : g_CB yX9_lost cX9_lost 3 (some .int) 2 := ⟨kc_X9_lost, kn_X9, by decide +kernel⟩
set_option maxRecDepth 100000 in
set_option maxHeartbeats 4000000 in
theorem c_X9_lost (l : Launch) (D : va_G) (a : Nat → Nat) (cI : ClassId) (hj : g_Inj 65 a) (hlt : l.stackTraces = false) (sa : Nat → Nat) (N : Nat) (σ : gSt) (x1 x2 : Int32) (out : Nat × Int32 × gSt) (hh : f_X9_lost N σ x1 x2 = some out) : vx_Met l yX9_lost (Cond.code yX9_lost cX9_lost 3 (some .int) :: gW) rmX9_lost (g_PcX 65 D a (gE a cI σ) [(cI, .int)] sa [.ref (a 0), .int x1, .int x2]) (g_QXi 65 D a (gE a cI out.2.2) out.1 out.2.1) (g_XC 65 D a (gE a cI out.2.2) out.1) 2 12 (g_Own 65 a) := by
  refine g_mxi (by decide) hj hlt rfl (Nat.le_of_ble_eq_true rfl) ?_
  intro p e s m args below meth c Q ls F X hl hI hq hqx
  have hx := F.1.1
  have hb := F.1.2.1
  have hl : lv_has ls 3 [(0, .ref (a 0)), (1, .int x1), (2, .int x2)] := hl
  have h := hh
  unfold f_X9_lost at h
  refine lv_aload_n hx hb dX9_lost_0 rfl (lv_at hl 0 rfl) ?_
  refine lv_iload_n hx hb dX9_lost_1 rfl (lv_at hl 1 rfl) ?_
  refine g_callXVv (E' := gE a cI σ) (k0 := 0) (As := [.int x1]) (rest := []) F X hI (c_X9_needRunner l D a cI F.2.2 hlt sa σ x1) kb_X9_needRunner ki_X9_needRunner ks_X9_needRunner km_X9_161 ⟨Nat.le_of_ble_eq_true rfl, Nat.le_of_ble_eq_true rfl, rfl, rfl⟩ (by decide) gE_0 rfl hl.1 rfl (Nat.le_of_ble_eq_true rfl) ⟨Nat.le_of_ble_eq_true rfl, Nat.le_of_ble_eq_true rfl⟩ dX9_lost_2 (fun H locs ce q9 hk hI h1 h2 h3 => ?_) (fun H locs hk hI => ?_)
  · have h := (if_neg hk).symm.trans h
    have h := Option.some.inj h
    subst h
    exact hqx _ _ _ _ _ _ _ _ _ hk (Nat.le_of_ble_eq_true rfl) (Nat.le_of_ble_eq_true rfl) hI h1 h2 h3
  have h := (if_pos hk).symm.trans h
  refine lv_aload_n hx hb dX9_lost_5 rfl (lv_at hl 0 rfl) ?_
  refine lv_iload_n hx hb dX9_lost_6 rfl (lv_at hl 1 rfl) ?_
  refine lv_iload_n hx hb dX9_lost_7 rfl (lv_at hl 2 rfl) ?_
  refine g_callXVv (E' := gE a cI σ) (k0 := 0) (As := [.int x1, .int x2]) (rest := []) F X hI (c_X9_needLeg l D a cI F.2.2 hlt sa σ x1 x2) kb_X9_needLeg ki_X9_needLeg ks_X9_needLeg km_X9_238 ⟨Nat.le_of_ble_eq_true rfl, Nat.le_of_ble_eq_true rfl, rfl, rfl⟩ (by decide) gE_0 rfl hl.1 rfl (Nat.le_of_ble_eq_true rfl) ⟨Nat.le_of_ble_eq_true rfl, Nat.le_of_ble_eq_true rfl⟩ dX9_lost_8 (fun H locs ce q9 hk hI h1 h2 h3 => ?_) (fun H locs hk hI => ?_)
  · have h := (if_neg hk).symm.trans h
    have h := Option.some.inj h
    subst h
    exact hqx _ _ _ _ _ _ _ _ _ hk (Nat.le_of_ble_eq_true rfl) (Nat.le_of_ble_eq_true rfl) hI h1 h2 h3
  have h := (if_pos hk).symm.trans h
  refine lv_aload_n hx hb dX9_lost_11 rfl (lv_at hl 0 rfl) ?_
  refine g_get F hI (by decide) gE_0 rfl ku_X9 7 (by decide) kf_X9_73 rfl dX9_lost_12 ?_
  obtain ⟨s_15, e_15, h⟩ := gBind_in h
  refine g_callVv (E' := gE a cI s_15) (k0 := 8) (As := []) (rest := []) F hI (c_X5_reckon l D a cI F.2.2 N σ s_15 e_15) kb_X5_reckon ki_X5_reckon ks_X5_reckon km_X9_173 ⟨Nat.le_of_ble_eq_true rfl, Nat.le_of_ble_eq_true rfl, rfl, rfl⟩ (by decide) gE_8 rfl hl.1 rfl (Nat.le_of_ble_eq_true rfl) ⟨Nat.le_of_ble_eq_true rfl, Nat.le_of_ble_eq_true rfl⟩ dX9_lost_15 (fun H locs hI => ?_)
  refine lv_aload_n hx hb dX9_lost_18 rfl (lv_at hl 0 rfl) ?_
  refine g_get F hI (by decide) gE_0 rfl ku_X9 7 (by decide) kf_X9_73 rfl dX9_lost_19 ?_
  refine lv_iload_n hx hb dX9_lost_22 rfl (lv_at hl 1 rfl) ?_
  refine lv_iload_n hx hb dX9_lost_23 rfl (lv_at hl 2 rfl) ?_
  obtain ⟨r_24, e_24, h⟩ := gBind_in h
  refine g_callVi (E' := gE a cI s_15) (k0 := 8) (As := [.int x1, .int x2]) (rest := []) F hI (c_X5_lostMinutes l D a cI F.2.2 N s_15 x1 x2 r_24 e_24) kb_X5_lostMinutes ki_X5_lostMinutes ks_X5_lostMinutes km_X9_250 ⟨Nat.le_of_ble_eq_true rfl, Nat.le_of_ble_eq_true rfl, rfl, rfl⟩ (by decide) gE_8 rfl hl.1 rfl (Nat.le_of_ble_eq_true rfl) ⟨Nat.le_of_ble_eq_true rfl, Nat.le_of_ble_eq_true rfl⟩ dX9_lost_24 (fun H locs hI => ?_)
  have h := Option.some.inj h
  subst h
  exact hq _ _ _ _ _ _ rfl (Nat.le_of_ble_eq_true rfl) (Nat.le_of_ble_eq_true rfl) hI dX9_lost_27
