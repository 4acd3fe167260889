/-- Spurline$Planner.measuredCost()I -/
def f_X4_measuredCost (σ : gSt) : Int32 :=
  σ.2 8
abbrev rmX4_measuredCost : Room := { frames := 0, cells := 0, slots := 0, locals := 0 }
theorem kb_X4_measuredCost : g_CB yX4_measuredCost cX4_measuredCost 1 (some .int) 0 := ⟨kc_X4_measuredCost, kn_X4, by decide +kernel⟩
set_option maxRecDepth 100000 in
set_option maxHeartbeats 4000000 in
theorem c_X4_measuredCost (l : Launch) (D : va_G) (a : Nat → Nat) (cI : ClassId) (hj : g_Inj 65 a) (σ : gSt) : Met l yX4_measuredCost (Cond.code yX4_measuredCost cX4_measuredCost 1 (some .int) :: gW) rmX4_measuredCost (g_Pc 65 D a (gE a cI σ) [(cI, .int)] [.ref (a 6)]) (g_Qi 65 D a (gE a cI σ) (f_X4_measuredCost σ)) 0 0 (g_Own 65 a) := by
  generalize hh : f_X4_measuredCost σ = out
  refine g_meti (by decide) hj (Nat.le_of_ble_eq_true rfl) ?_
  intro p e s m args below meth c Q ls F hl hI hq
  have hx := F.1.1
  have hb := F.1.2.1
  have hl : lv_has ls 1 [(0, .ref (a 6))] := hl
  have h := hh
  unfold f_X4_measuredCost at h
  refine lv_aload_n hx hb dX4_measuredCost_0 rfl (lv_at hl 0 rfl) ?_
  refine g_get F hI (by decide) gE_6 rfl ku_X4 10 (by decide) kf_X4_41 rfl dX4_measuredCost_1 ?_
  subst h
  exact hq _ _ _ _ hI dX4_measuredCost_4
/-- Spurline$Planner.measuredClimb()I -/
def f_X4_measuredClimb (σ : gSt) : Int32 :=
  σ.2 9
abbrev rmX4_measuredClimb : Room := { frames := 0, cells := 0, slots := 0, locals := 0 }
theorem kb_X4_measuredClimb : g_CB yX4_measuredClimb cX4_measuredClimb 1 (some .int) 0 := ⟨kc_X4_measuredClimb, kn_X4, by decide +kernel⟩
set_option maxRecDepth 100000 in
set_option maxHeartbeats 4000000 in
theorem c_X4_measuredClimb (l : Launch) (D : va_G) (a : Nat → Nat) (cI : ClassId) (hj : g_Inj 65 a) (σ : gSt) : Met l yX4_measuredClimb (Cond.code yX4_measuredClimb cX4_measuredClimb 1 (some .int) :: gW) rmX4_measuredClimb (g_Pc 65 D a (gE a cI σ) [(cI, .int)] [.ref (a 6)]) (g_Qi 65 D a (gE a cI σ) (f_X4_measuredClimb σ)) 0 0 (g_Own 65 a) := by
  generalize hh : f_X4_measuredClimb σ = out
  refine g_meti (by decide) hj (Nat.le_of_ble_eq_true rfl) ?_
  intro p e s m args below meth c Q ls F hl hI hq
  have hx := F.1.1
  have hb := F.1.2.1
  have hl : lv_has ls 1 [(0, .ref (a 6))] := hl
  have h := hh
  unfold f_X4_measuredClimb at h
  refine lv_aload_n hx hb dX4_measuredClimb_0 rfl (lv_at hl 0 rfl) ?_
  refine g_get F hI (by decide) gE_6 rfl ku_X4 11 (by decide) kf_X4_45 rfl dX4_measuredClimb_1 ?_
  subst h
  exact hq _ _ _ _ hI dX4_measuredClimb_4
/-- Spurline$Planner.measure(I)V -/
def f_X4_measure (N : Nat) (σ : gSt) (x1 : Int32) : Option gSt :=
  gJoin1 (fun (w0_17 : Int32) =>
      gLoop2 (fun self30 (v2_30 : Int32) (s_30 : gSt) =>
        if f_X2_legs s_30 x1 ≤ v2_30 then
          some s_30
        else
          if s_30.2 8 = (-1) then
            some s_30
          else
            (f_X6_search N s_30 (f_X1_cellOf s_30 (f_X2_controlAt s_30 x1 v2_30)) 0).bind (fun (s_71 : gSt) =>
            gJoin1 (fun (w0_110 : Int32) =>
                gJoin1 (fun (w0_135 : Int32) =>
                    gJoin1 (fun (w0_161 : Int32) =>
                        self30 (v2_30 + 1) (g_sf (g_sf s_71 8 w0_135) 9 w0_161)) (fun j161 =>
                      if w0_110 = 0 then
                        j161 (-1)
                      else
                        j161 (((g_sf s_71 8 w0_135).2 9) + (f_X6_climbTo (g_sf s_71 8 w0_135) (f_X1_cellOf s_71 (f_X2_controlAt s_71 x1 (v2_30 + 1))))))) (fun j135 =>
                  if w0_110 = 0 then
                    j135 (-1)
                  else
                    j135 ((s_71.2 8) + (f_X6_costTo s_71 (f_X1_cellOf s_71 (f_X2_controlAt s_71 x1 (v2_30 + 1))))))) (fun j110 =>
              if f_X6_costTo s_71 (f_X1_cellOf s_71 (f_X2_controlAt s_71 x1 (v2_30 + 1))) = (-1) then
                j110 0
              else
                j110 1))) N 0 (g_sf (g_sf σ 8 w0_17) 9 ((g_sf σ 8 w0_17).2 8))) (fun j17 =>
    if f_X2_legs σ x1 ≤ 0 then
      j17 (-1)
    else
      j17 0)
abbrev rmX4_measure : Room := { frames := 4, cells := 0, slots := 0, locals := 94 }
theorem kb_X4_measure : g_CB yX4_measure cX4_measure 5 none 1 := ⟨kc_X4_measure, kn_X4, by decide +kernel⟩
set_option maxRecDepth 100000 in
set_option maxHeartbeats 4000000 in
theorem c_X4_measure (l : Launch) (D : va_G) (a : Nat → Nat) (cI : ClassId) (hj : g_Inj 65 a) (N : Nat) (σ : gSt) (x1 : Int32) (out : gSt) (hh : f_X4_measure N σ x1 = some out) : Met l yX4_measure (Cond.code yX4_measure cX4_measure 5 none :: gW) rmX4_measure (g_Pc 65 D a (gE a cI σ) [(cI, .int)] [.ref (a 6), .int x1]) (g_Qv 65 D a (gE a cI out)) 0 0 (g_Own 65 a) := by
  refine g_metv (by decide) hj (Nat.le_of_ble_eq_true rfl) ?_
  intro p e s m args below meth c Q ls F hl hI hq
  have hx := F.1.1
  have hb := F.1.2.1
  have hl : lv_has ls 5 [(0, .ref (a 6)), (1, .int x1)] := hl
  have h := hh
  unfold f_X4_measure at h
  refine lv_aload_n hx hb dX4_measure_0 rfl (lv_at hl 0 rfl) ?_
  refine lv_aload_n hx hb dX4_measure_1 rfl (lv_at hl 0 rfl) ?_
  refine g_get F hI (by decide) gE_6 rfl ku_X4 2 (by decide) kf_X4_37 rfl dX4_measure_2 ?_
  refine lv_iload_n hx hb dX4_measure_5 rfl (lv_at hl 1 rfl) ?_
  refine g_callVi (E' := gE a cI σ) (k0 := 5) (As := [.int x1]) (rest := [.ref (a 6)]) F hI (c_X2_legs l D a cI F.2.2 σ x1) kb_X2_legs ki_X2_legs ks_X2_legs km_X4_48 ⟨Nat.le_of_ble_eq_true rfl, Nat.le_of_ble_eq_true rfl, rfl, rfl⟩ (by decide) gE_5 rfl hl.1 rfl (Nat.le_of_ble_eq_true rfl) ⟨Nat.zero_le _, Nat.zero_le _⟩ dX4_measure_6 (fun H locs hI => ?_)
  obtain ⟨j17, hj17, h⟩ := gJoin1_in h
  have J17 : ∀ (w0_17 : Int32) (H : Heap) (locs : List Loc) (ls : Array Slot), j17 w0_17 = some out → g_S 65 D a (gE a cI σ) s.heap H locs → lv_has ls 5 [(0, .ref (a 6)), (1, .int x1)] → W p l e rmX4_measure s m args below meth c H locs 0 0 Q (F0 m 17 ls [.int w0_17, .ref (a 6)]) := by
    intro w0_17 H locs ls h hI hl
    rw [hj17] at h
    refine g_put (E' := gE a cI (g_sf σ 8 w0_17)) F hI (by decide) gE_6 rfl ku_X4 tyX4_ok nmX4 10 (by decide) kf_X4_41 rfl rfl rfl rfl (Nat.le_of_ble_eq_true rfl) rfl gE_sf_8 dX4_measure_17 (fun H locs hI => ?_)
    refine lv_aload_n hx hb dX4_measure_20 rfl (lv_at hl 0 rfl) ?_
    refine lv_aload_n hx hb dX4_measure_21 rfl (lv_at hl 0 rfl) ?_
    refine g_get F hI (by decide) gE_6 rfl ku_X4 10 (by decide) kf_X4_41 rfl dX4_measure_22 ?_
    refine g_put (E' := gE a cI (g_sf (g_sf σ 8 w0_17) 9 ((g_sf σ 8 w0_17).2 8))) F hI (by decide) gE_6 rfl ku_X4 tyX4_ok nmX4 11 (by decide) kf_X4_45 rfl rfl rfl rfl (Nat.le_of_ble_eq_true rfl) rfl gE_sf_9 dX4_measure_25 (fun H locs hI => ?_)
    refine lv_iconst (v := 0) hx hb dX4_measure_28 (by decide) ?_
    refine lv_istore_n (lv' := [(2, .int 0), (0, .ref (a 6)), (1, .int x1)]) hx hb dX4_measure_29 rfl hl (by decide) rfl (fun ls hl => ?_)
    obtain ⟨lp30, hz30, hs30, h⟩ := gLoop2_in h
    have L30 : ∀ (n : Nat) (v2_30 : Int32) (s_30 : gSt) (H : Heap) (locs : List Loc) (ls : Array Slot), lp30 n v2_30 s_30 = some out → g_S 65 D a (gE a cI s_30) s.heap H locs → lv_has ls 5 [(0, .ref (a 6)), (1, .int x1), (2, .int v2_30)] → W p l e rmX4_measure s m args below meth c H locs 0 0 Q (F0 m 30 ls []) := by
      intro n
      induction n with
      | zero => intro v2_30 s_30 H locs ls h; rw [hz30] at h; cases h
      | succ n ih30 =>
        intro v2_30 s_30 H locs ls h hI hl
        rw [hs30] at h
        refine lv_iload_n hx hb dX4_measure_30 rfl (lv_at hl 2 rfl) ?_
        refine lv_aload_n hx hb dX4_measure_31 rfl (lv_at hl 0 rfl) ?_
        refine g_get F hI (by decide) gE_6 rfl ku_X4 2 (by decide) kf_X4_37 rfl dX4_measure_32 ?_
        refine lv_iload_n hx hb dX4_measure_35 rfl (lv_at hl 1 rfl) ?_
        refine g_callVi (E' := gE a cI s_30) (k0 := 5) (As := [.int x1]) (rest := [.int v2_30]) F hI (c_X2_legs l D a cI F.2.2 s_30 x1) kb_X2_legs ki_X2_legs ks_X2_legs km_X4_48 ⟨Nat.le_of_ble_eq_true rfl, Nat.le_of_ble_eq_true rfl, rfl, rfl⟩ (by decide) gE_5 rfl hl.1 rfl (Nat.le_of_ble_eq_true rfl) ⟨Nat.zero_le _, Nat.zero_le _⟩ dX4_measure_36 (fun H locs hI => ?_)
        refine lv_icmp_ge (tgt := 170) hx hb dX4_measure_39 (by decide) (fun c_39 => ?_) (fun c_39 => ?_)
        · have h := (if_pos c_39).symm.trans h
          have h := Option.some.inj h
          subst h
          exact hq _ _ _ _ hI dX4_measure_170
        · have h := (if_neg c_39).symm.trans h
          refine lv_aload_n hx hb dX4_measure_42 rfl (lv_at hl 0 rfl) ?_
          refine g_get F hI (by decide) gE_6 rfl ku_X4 10 (by decide) kf_X4_41 rfl dX4_measure_43 ?_
          refine lv_iconst (v := -1) hx hb dX4_measure_46 (by decide) ?_
          refine lv_icmp_eq (tgt := 170) hx hb dX4_measure_47 (by decide) (fun c_47 => ?_) (fun c_47 => ?_)
          · have h := (if_pos c_47).symm.trans h
            have h := Option.some.inj h
            subst h
            exact hq _ _ _ _ hI dX4_measure_170
          · have h := (if_neg c_47).symm.trans h
            refine lv_aload_n hx hb dX4_measure_50 rfl (lv_at hl 0 rfl) ?_
            refine g_get F hI (by decide) gE_6 rfl ku_X4 0 (by decide) kf_X4_29 rfl dX4_measure_51 ?_
            refine lv_aload_n hx hb dX4_measure_54 rfl (lv_at hl 0 rfl) ?_
            refine g_get F hI (by decide) gE_6 rfl ku_X4 1 (by decide) kf_X4_33 rfl dX4_measure_55 ?_
            refine lv_aload_n hx hb dX4_measure_58 rfl (lv_at hl 0 rfl) ?_
            refine g_get F hI (by decide) gE_6 rfl ku_X4 2 (by decide) kf_X4_37 rfl dX4_measure_59 ?_
            refine lv_iload_n hx hb dX4_measure_62 rfl (lv_at hl 1 rfl) ?_
            refine lv_iload_n hx hb dX4_measure_63 rfl (lv_at hl 2 rfl) ?_
            refine g_callVi (E' := gE a cI s_30) (k0 := 5) (As := [.int x1, .int v2_30]) (rest := [.ref (a 4), .ref (a 3)]) F hI (c_X2_controlAt l D a cI F.2.2 s_30 x1 v2_30) kb_X2_controlAt ki_X2_controlAt ks_X2_controlAt km_X4_54 ⟨Nat.le_of_ble_eq_true rfl, Nat.le_of_ble_eq_true rfl, rfl, rfl⟩ (by decide) gE_5 rfl hl.1 rfl (Nat.le_of_ble_eq_true rfl) ⟨Nat.zero_le _, Nat.zero_le _⟩ dX4_measure_64 (fun H locs hI => ?_)
            refine g_callVi (E' := gE a cI s_30) (k0 := 4) (As := [.int (f_X2_controlAt s_30 x1 v2_30)]) (rest := [.ref (a 3)]) F hI (c_X1_cellOf l D a cI F.2.2 s_30 (f_X2_controlAt s_30 x1 v2_30)) kb_X1_cellOf ki_X1_cellOf ks_X1_cellOf km_X4_58 ⟨Nat.le_of_ble_eq_true rfl, Nat.le_of_ble_eq_true rfl, rfl, rfl⟩ (by decide) gE_4 rfl hl.1 rfl (Nat.le_of_ble_eq_true rfl) ⟨Nat.zero_le _, Nat.zero_le _⟩ dX4_measure_67 (fun H locs hI => ?_)
            refine lv_iconst (v := 0) hx hb dX4_measure_70 (by decide) ?_
            obtain ⟨s_71, e_71, h⟩ := gBind_in h
            refine g_callVv (E' := gE a cI s_71) (k0 := 3) (As := [.int (f_X1_cellOf s_30 (f_X2_controlAt s_30 x1 v2_30)), .int 0]) (rest := []) F hI (c_X6_search l D a cI F.2.2 N s_30 (f_X1_cellOf s_30 (f_X2_controlAt s_30 x1 v2_30)) 0 s_71 e_71) kb_X6_search ki_X6_search ks_X6_search km_X4_63 ⟨Nat.le_of_ble_eq_true rfl, Nat.le_of_ble_eq_true rfl, rfl, rfl⟩ (by decide) gE_3 rfl hl.1 rfl (Nat.le_of_ble_eq_true rfl) ⟨Nat.zero_le _, Nat.zero_le _⟩ dX4_measure_71 (fun H locs hI => ?_)
            refine lv_aload_n hx hb dX4_measure_74 rfl (lv_at hl 0 rfl) ?_
            refine g_get F hI (by decide) gE_6 rfl ku_X4 1 (by decide) kf_X4_33 rfl dX4_measure_75 ?_
            refine lv_aload_n hx hb dX4_measure_78 rfl (lv_at hl 0 rfl) ?_
            refine g_get F hI (by decide) gE_6 rfl ku_X4 2 (by decide) kf_X4_37 rfl dX4_measure_79 ?_
            refine lv_iload_n hx hb dX4_measure_82 rfl (lv_at hl 1 rfl) ?_
            refine lv_iload_n hx hb dX4_measure_83 rfl (lv_at hl 2 rfl) ?_
            refine lv_iconst (v := 1) hx hb dX4_measure_84 (by decide) ?_
            refine lv_iadd hx hb dX4_measure_85 ?_
            refine g_callVi (E' := gE a cI s_71) (k0 := 5) (As := [.int x1, .int (v2_30 + 1)]) (rest := [.ref (a 4)]) F hI (c_X2_controlAt l D a cI F.2.2 s_71 x1 (v2_30 + 1)) kb_X2_controlAt ki_X2_controlAt ks_X2_controlAt km_X4_54 ⟨Nat.le_of_ble_eq_true rfl, Nat.le_of_ble_eq_true rfl, rfl, rfl⟩ (by decide) gE_5 rfl hl.1 rfl (Nat.le_of_ble_eq_true rfl) ⟨Nat.zero_le _, Nat.zero_le _⟩ dX4_measure_86 (fun H locs hI => ?_)
            refine g_callVi (E' := gE a cI s_71) (k0 := 4) (As := [.int (f_X2_controlAt s_71 x1 (v2_30 + 1))]) (rest := []) F hI (c_X1_cellOf l D a cI F.2.2 s_71 (f_X2_controlAt s_71 x1 (v2_30 + 1))) kb_X1_cellOf ki_X1_cellOf ks_X1_cellOf km_X4_58 ⟨Nat.le_of_ble_eq_true rfl, Nat.le_of_ble_eq_true rfl, rfl, rfl⟩ (by decide) gE_4 rfl hl.1 rfl (Nat.le_of_ble_eq_true rfl) ⟨Nat.zero_le _, Nat.zero_le _⟩ dX4_measure_89 (fun H locs hI => ?_)
            refine lv_istore_n (lv' := [(3, .int (f_X1_cellOf s_71 (f_X2_controlAt s_71 x1 (v2_30 + 1)))), (0, .ref (a 6)), (1, .int x1), (2, .int v2_30)]) hx hb dX4_measure_92 rfl hl (by decide) rfl (fun ls hl => ?_)
            refine lv_aload_n hx hb dX4_measure_93 rfl (lv_at hl 1 rfl) ?_
            refine g_get F hI (by decide) gE_6 rfl ku_X4 0 (by decide) kf_X4_29 rfl dX4_measure_94 ?_
            refine lv_iload_n hx hb dX4_measure_97 rfl (lv_at hl 0 rfl) ?_
            refine g_callVi (E' := gE a cI s_71) (k0 := 3) (As := [.int (f_X1_cellOf s_71 (f_X2_controlAt s_71 x1 (v2_30 + 1)))]) (rest := []) F hI (c_X6_costTo l D a cI F.2.2 s_71 (f_X1_cellOf s_71 (f_X2_controlAt s_71 x1 (v2_30 + 1)))) kb_X6_costTo ki_X6_costTo ks_X6_costTo km_X4_69 ⟨Nat.le_of_ble_eq_true rfl, Nat.le_of_ble_eq_true rfl, rfl, rfl⟩ (by decide) gE_3 rfl hl.1 rfl (Nat.le_of_ble_eq_true rfl) ⟨Nat.zero_le _, Nat.zero_le _⟩ dX4_measure_98 (fun H locs hI => ?_)
            refine lv_iconst (v := -1) hx hb dX4_measure_101 (by decide) ?_
            obtain ⟨j110, hj110, h⟩ := gJoin1_in h
            have J110 : ∀ (w0_110 : Int32) (H : Heap) (locs : List Loc) (ls : Array Slot), j110 w0_110 = some out → g_S 65 D a (gE a cI s_71) s.heap H locs → lv_has ls 5 [(0, .ref (a 6)), (1, .int x1), (2, .int v2_30), (3, .int (f_X1_cellOf s_71 (f_X2_controlAt s_71 x1 (v2_30 + 1))))] → W p l e rmX4_measure s m args below meth c H locs 0 0 Q (F0 m 110 ls [.int w0_110]) := by
              intro w0_110 H locs ls h hI hl
              rw [hj110] at h
              refine lv_istore (lv' := [(4, .int w0_110), (0, .ref (a 6)), (1, .int x1), (2, .int v2_30), (3, .int (f_X1_cellOf s_71 (f_X2_controlAt s_71 x1 (v2_30 + 1))))]) hx hb dX4_measure_110 hl (by decide) rfl (fun ls hl => ?_)
              refine lv_aload_n hx hb dX4_measure_112 rfl (lv_at hl 1 rfl) ?_
              refine lv_iload hx hb dX4_measure_113 (lv_at hl 0 rfl) ?_
              obtain ⟨j135, hj135, h⟩ := gJoin1_in h
              have J135 : ∀ (w0_135 : Int32) (H : Heap) (locs : List Loc) (ls : Array Slot), j135 w0_135 = some out → g_S 65 D a (gE a cI s_71) s.heap H locs → lv_has ls 5 [(0, .ref (a 6)), (1, .int x1), (2, .int v2_30), (3, .int (f_X1_cellOf s_71 (f_X2_controlAt s_71 x1 (v2_30 + 1)))), (4, .int w0_110)] → W p l e rmX4_measure s m args below meth c H locs 0 0 Q (F0 m 135 ls [.int w0_135, .ref (a 6)]) := by
                intro w0_135 H locs ls h hI hl
                rw [hj135] at h
                refine g_put (E' := gE a cI (g_sf s_71 8 w0_135)) F hI (by decide) gE_6 rfl ku_X4 tyX4_ok nmX4 10 (by decide) kf_X4_41 rfl rfl rfl rfl (Nat.le_of_ble_eq_true rfl) rfl gE_sf_8 dX4_measure_135 (fun H locs hI => ?_)
                refine lv_aload_n hx hb dX4_measure_138 rfl (lv_at hl 0 rfl) ?_
                refine lv_iload hx hb dX4_measure_139 (lv_at hl 4 rfl) ?_
                obtain ⟨j161, hj161, h⟩ := gJoin1_in h
                have J161 : ∀ (w0_161 : Int32) (H : Heap) (locs : List Loc) (ls : Array Slot), j161 w0_161 = some out → g_S 65 D a (gE a cI (g_sf s_71 8 w0_135)) s.heap H locs → lv_has ls 5 [(0, .ref (a 6)), (1, .int x1), (2, .int v2_30)] → W p l e rmX4_measure s m args below meth c H locs 0 0 Q (F0 m 161 ls [.int w0_161, .ref (a 6)]) := by
                  intro w0_161 H locs ls h hI hl
                  rw [hj161] at h
                  refine g_put (E' := gE a cI (g_sf (g_sf s_71 8 w0_135) 9 w0_161)) F hI (by decide) gE_6 rfl ku_X4 tyX4_ok nmX4 11 (by decide) kf_X4_45 rfl rfl rfl rfl (Nat.le_of_ble_eq_true rfl) rfl gE_sf_9 dX4_measure_161 (fun H locs hI => ?_)
                  refine lv_iinc (v := v2_30 + 1) (lv' := [(2, .int (v2_30 + 1)), (0, .ref (a 6)), (1, .int x1)]) hx hb dX4_measure_164 hl (k := 2) rfl rfl (by decide) rfl (fun ls hl => ?_)
                  refine lv_goto (tgt := 30) hx hb dX4_measure_167 (by decide) ?_
                  exact ih30 _ _ _ _ _ h hI (lv_sub hl [1, 2, 0] rfl)
                refine lv_if_eq (tgt := 160) hx hb dX4_measure_141 (by decide) (fun c_141 => ?_) (fun c_141 => ?_)
                · have h := (if_pos c_141).symm.trans h
                  refine lv_iconst (v := -1) hx hb dX4_measure_160 (by decide) ?_
                  exact J161 _ _ _ _ h hI (lv_sub hl [0, 1, 2] rfl)
                · have h := (if_neg c_141).symm.trans h
                  refine lv_aload_n hx hb dX4_measure_144 rfl (lv_at hl 0 rfl) ?_
                  refine g_get F hI (by decide) gE_6 rfl ku_X4 11 (by decide) kf_X4_45 rfl dX4_measure_145 ?_
                  refine lv_aload_n hx hb dX4_measure_148 rfl (lv_at hl 0 rfl) ?_
                  refine g_get F hI (by decide) gE_6 rfl ku_X4 0 (by decide) kf_X4_29 rfl dX4_measure_149 ?_
                  refine lv_iload_n hx hb dX4_measure_152 rfl (lv_at hl 3 rfl) ?_
                  refine g_callVi (E' := gE a cI (g_sf s_71 8 w0_135)) (k0 := 3) (As := [.int (f_X1_cellOf s_71 (f_X2_controlAt s_71 x1 (v2_30 + 1)))]) (rest := [.int ((g_sf s_71 8 w0_135).2 9), .ref (a 6)]) F hI (c_X6_climbTo l D a cI F.2.2 (g_sf s_71 8 w0_135) (f_X1_cellOf s_71 (f_X2_controlAt s_71 x1 (v2_30 + 1)))) kb_X6_climbTo ki_X6_climbTo ks_X6_climbTo km_X4_72 ⟨Nat.le_of_ble_eq_true rfl, Nat.le_of_ble_eq_true rfl, rfl, rfl⟩ (by decide) gE_3 rfl hl.1 rfl (Nat.le_of_ble_eq_true rfl) ⟨Nat.zero_le _, Nat.zero_le _⟩ dX4_measure_153 (fun H locs hI => ?_)
                  refine lv_iadd hx hb dX4_measure_156 ?_
                  refine lv_goto (tgt := 161) hx hb dX4_measure_157 (by decide) ?_
                  exact J161 _ _ _ _ h hI (lv_sub hl [0, 1, 2] rfl)
              refine lv_if_eq (tgt := 134) hx hb dX4_measure_115 (by decide) (fun c_115 => ?_) (fun c_115 => ?_)
              · have h := (if_pos c_115).symm.trans h
                refine lv_iconst (v := -1) hx hb dX4_measure_134 (by decide) ?_
                exact J135 _ _ _ _ h hI (lv_sub hl [1, 2, 3, 4, 0] rfl)
              · have h := (if_neg c_115).symm.trans h
                refine lv_aload_n hx hb dX4_measure_118 rfl (lv_at hl 1 rfl) ?_
                refine g_get F hI (by decide) gE_6 rfl ku_X4 10 (by decide) kf_X4_41 rfl dX4_measure_119 ?_
                refine lv_aload_n hx hb dX4_measure_122 rfl (lv_at hl 1 rfl) ?_
                refine g_get F hI (by decide) gE_6 rfl ku_X4 0 (by decide) kf_X4_29 rfl dX4_measure_123 ?_
                refine lv_iload_n hx hb dX4_measure_126 rfl (lv_at hl 4 rfl) ?_
                refine g_callVi (E' := gE a cI s_71) (k0 := 3) (As := [.int (f_X1_cellOf s_71 (f_X2_controlAt s_71 x1 (v2_30 + 1)))]) (rest := [.int (s_71.2 8), .ref (a 6)]) F hI (c_X6_costTo l D a cI F.2.2 s_71 (f_X1_cellOf s_71 (f_X2_controlAt s_71 x1 (v2_30 + 1)))) kb_X6_costTo ki_X6_costTo ks_X6_costTo km_X4_69 ⟨Nat.le_of_ble_eq_true rfl, Nat.le_of_ble_eq_true rfl, rfl, rfl⟩ (by decide) gE_3 rfl hl.1 rfl (Nat.le_of_ble_eq_true rfl) ⟨Nat.zero_le _, Nat.zero_le _⟩ dX4_measure_127 (fun H locs hI => ?_)
                refine lv_iadd hx hb dX4_measure_130 ?_
                refine lv_goto (tgt := 135) hx hb dX4_measure_131 (by decide) ?_
                exact J135 _ _ _ _ h hI (lv_sub hl [1, 2, 3, 4, 0] rfl)
            refine lv_icmp_eq (tgt := 109) hx hb dX4_measure_102 (by decide) (fun c_102 => ?_) (fun c_102 => ?_)
            · have h := (if_pos c_102).symm.trans h
              refine lv_iconst (v := 0) hx hb dX4_measure_109 (by decide) ?_
              exact J110 _ _ _ _ h hI (lv_sub hl [1, 2, 3, 0] rfl)
            · have h := (if_neg c_102).symm.trans h
              refine lv_iconst (v := 1) hx hb dX4_measure_105 (by decide) ?_
              refine lv_goto (tgt := 110) hx hb dX4_measure_106 (by decide) ?_
              exact J110 _ _ _ _ h hI (lv_sub hl [1, 2, 3, 0] rfl)
    exact L30 _ _ _ _ _ _ h hI (lv_sub hl [1, 2, 0] rfl)
  refine lv_if_le (tgt := 16) hx hb dX4_measure_9 (by decide) (fun c_9 => ?_) (fun c_9 => ?_)
  · have h := (if_pos c_9).symm.trans h
    refine lv_iconst (v := -1) hx hb dX4_measure_16 (by decide) ?_
    exact J17 _ _ _ _ h hI (lv_sub hl [0, 1] rfl)
  · have h := (if_neg c_9).symm.trans h
    refine lv_iconst (v := 0) hx hb dX4_measure_12 (by decide) ?_
    refine lv_goto (tgt := 17) hx hb dX4_measure_13 (by decide) ?_
    exact J17 _ _ _ _ h hI (lv_sub hl [0, 1] rfl)
/-- Spurline$Planner.differenceOfClimbs()I -/
def f_X4_differenceOfClimbs (N : Nat) (σ : gSt) : Option (Int32 × gSt) :=
  gLoop4 (fun self6 (v1_6 : Int32) (v2_6 : Int32) (v3_6 : Int32) (s_6 : gSt) =>
    if 5 ≤ v3_6 then
      some (v1_6 - v2_6, s_6)
    else
      (f_X4_measure N s_6 v3_6).bind (fun (s_13 : gSt) =>
      gJoin2 (fun (v1_54 : Int32) (v2_54 : Int32) =>
          self6 v1_54 v2_54 (v3_6 + 1) s_13) (fun j54 =>
        if s_13.2 9 = (-1) then
          j54 v1_6 v2_6
        else
          gJoin1 (fun (w0_53 : Int32) =>
              j54 (jmax v1_6 (s_13.2 9)) w0_53) (fun j53 =>
            if v2_6 = (-1) then
              j53 (s_13.2 9)
            else
              j53 (jmin v2_6 (s_13.2 9)))))) N (-1) (-1) 0 σ
abbrev rmX4_differenceOfClimbs : Room := { frames := 5, cells := 0, slots := 0, locals := 118 }
theorem kb_X4_differenceOfClimbs : g_CB yX4_differenceOfClimbs cX4_differenceOfClimbs 4 (some .int) 0 := ⟨kc_X4_differenceOfClimbs, kn_X4, by decide +kernel⟩
set_option maxRecDepth 100000 in
set_option maxHeartbeats 4000000 in
theorem c_X4_differenceOfClimbs (l : Launch) (D : va_G) (a : Nat → Nat) (cI : ClassId) (hj : g_Inj 65 a) (N : Nat) (σ : gSt) (out : Int32 × gSt) (hh : f_X4_differenceOfClimbs N σ = some out) : Met l yX4_differenceOfClimbs (Cond.code yX4_differenceOfClimbs cX4_differenceOfClimbs 4 (some .int) :: gW) rmX4_differenceOfClimbs (g_Pc 65 D a (gE a cI σ) [(cI, .int)] [.ref (a 6)]) (g_Qi 65 D a (gE a cI out.2) out.1) 0 0 (g_Own 65 a) := by
  refine g_meti (by decide) hj (Nat.le_of_ble_eq_true rfl) ?_
  intro p e s m args below meth c Q ls F hl hI hq
  have hx := F.1.1
  have hb := F.1.2.1
  have hl : lv_has ls 4 [(0, .ref (a 6))] := hl
  have h := hh
  unfold f_X4_differenceOfClimbs at h
  refine lv_iconst (v := -1) hx hb dX4_differenceOfClimbs_0 (by decide) ?_
  refine lv_istore_n (lv' := [(1, .int (-1)), (0, .ref (a 6))]) hx hb dX4_differenceOfClimbs_1 rfl hl (by decide) rfl (fun ls hl => ?_)
  refine lv_iconst (v := -1) hx hb dX4_differenceOfClimbs_2 (by decide) ?_
  refine lv_istore_n (lv' := [(2, .int (-1)), (1, .int (-1)), (0, .ref (a 6))]) hx hb dX4_differenceOfClimbs_3 rfl hl (by decide) rfl (fun ls hl => ?_)
  refine lv_iconst (v := 0) hx hb dX4_differenceOfClimbs_4 (by decide) ?_
  refine lv_istore_n (lv' := [(3, .int 0), (2, .int (-1)), (1, .int (-1)), (0, .ref (a 6))]) hx hb dX4_differenceOfClimbs_5 rfl hl (by decide) rfl (fun ls hl => ?_)
  obtain ⟨lp6, hz6, hs6, h⟩ := gLoop4_in h
  have L6 : ∀ (n : Nat) (v1_6 : Int32) (v2_6 : Int32) (v3_6 : Int32) (s_6 : gSt) (H : Heap) (locs : List Loc) (ls : Array Slot), lp6 n v1_6 v2_6 v3_6 s_6 = some out → g_S 65 D a (gE a cI s_6) s.heap H locs → lv_has ls 4 [(0, .ref (a 6)), (1, .int v1_6), (2, .int v2_6), (3, .int v3_6)] → W p l e rmX4_differenceOfClimbs s m args below meth c H locs 0 0 Q (F0 m 6 ls []) := by
    intro n
    induction n with
    | zero => intro v1_6 v2_6 v3_6 s_6 H locs ls h; rw [hz6] at h; cases h
    | succ n ih6 =>
      intro v1_6 v2_6 v3_6 s_6 H locs ls h hI hl
      rw [hs6] at h
      refine lv_iload_n hx hb dX4_differenceOfClimbs_6 rfl (lv_at hl 3 rfl) ?_
      refine lv_iconst (v := 5) hx hb dX4_differenceOfClimbs_7 (by decide) ?_
      refine lv_icmp_ge (tgt := 60) hx hb dX4_differenceOfClimbs_8 (by decide) (fun c_8 => ?_) (fun c_8 => ?_)
      · have h := (if_pos c_8).symm.trans h
        refine lv_iload_n hx hb dX4_differenceOfClimbs_60 rfl (lv_at hl 1 rfl) ?_
        refine lv_iload_n hx hb dX4_differenceOfClimbs_61 rfl (lv_at hl 2 rfl) ?_
        refine lv_isub hx hb dX4_differenceOfClimbs_62 ?_
        have h := Option.some.inj h
        subst h
        exact hq _ _ _ _ hI dX4_differenceOfClimbs_63
      · have h := (if_neg c_8).symm.trans h
        refine lv_aload_n hx hb dX4_differenceOfClimbs_11 rfl (lv_at hl 0 rfl) ?_
        refine lv_iload_n hx hb dX4_differenceOfClimbs_12 rfl (lv_at hl 3 rfl) ?_
        obtain ⟨s_13, e_13, h⟩ := gBind_in h
        refine g_callVv (E' := gE a cI s_13) (k0 := 6) (As := [.int v3_6]) (rest := []) F hI (c_X4_measure l D a cI F.2.2 N s_6 v3_6 s_13 e_13) kb_X4_measure ki_X4_measure ks_X4_measure km_X4_75 ⟨Nat.le_of_ble_eq_true rfl, Nat.le_of_ble_eq_true rfl, rfl, rfl⟩ (by decide) gE_6 rfl hl.1 rfl (Nat.le_of_ble_eq_true rfl) ⟨Nat.zero_le _, Nat.zero_le _⟩ dX4_differenceOfClimbs_13 (fun H locs hI => ?_)
        refine lv_aload_n hx hb dX4_differenceOfClimbs_16 rfl (lv_at hl 0 rfl) ?_
        refine g_get F hI (by decide) gE_6 rfl ku_X4 11 (by decide) kf_X4_45 rfl dX4_differenceOfClimbs_17 ?_
        refine lv_iconst (v := -1) hx hb dX4_differenceOfClimbs_20 (by decide) ?_
        obtain ⟨j54, hj54, h⟩ := gJoin2_in h
        have J54 : ∀ (v1_54 : Int32) (v2_54 : Int32) (H : Heap) (locs : List Loc) (ls : Array Slot), j54 v1_54 v2_54 = some out → g_S 65 D a (gE a cI s_13) s.heap H locs → lv_has ls 4 [(0, .ref (a 6)), (1, .int v1_54), (2, .int v2_54), (3, .int v3_6)] → W p l e rmX4_differenceOfClimbs s m args below meth c H locs 0 0 Q (F0 m 54 ls []) := by
          intro v1_54 v2_54 H locs ls h hI hl
          rw [hj54] at h
          refine lv_iinc (v := v3_6 + 1) (lv' := [(3, .int (v3_6 + 1)), (0, .ref (a 6)), (1, .int v1_54), (2, .int v2_54)]) hx hb dX4_differenceOfClimbs_54 hl (k := 3) rfl rfl (by decide) rfl (fun ls hl => ?_)
          refine lv_goto (tgt := 6) hx hb dX4_differenceOfClimbs_57 (by decide) ?_
          exact ih6 _ _ _ _ _ _ _ h hI (lv_sub hl [1, 2, 3, 0] rfl)
        refine lv_icmp_eq (tgt := 54) hx hb dX4_differenceOfClimbs_21 (by decide) (fun c_21 => ?_) (fun c_21 => ?_)
        · have h := (if_pos c_21).symm.trans h
          exact J54 _ _ _ _ _ h hI (lv_sub hl [0, 1, 2, 3] rfl)
        · have h := (if_neg c_21).symm.trans h
          refine lv_iload_n hx hb dX4_differenceOfClimbs_24 rfl (lv_at hl 1 rfl) ?_
          refine lv_aload_n hx hb dX4_differenceOfClimbs_25 rfl (lv_at hl 0 rfl) ?_
          refine g_get F hI (by decide) gE_6 rfl ku_X4 11 (by decide) kf_X4_45 rfl dX4_differenceOfClimbs_26 ?_
          refine g_mmax F hl.1 km_X4_78 ⟨Nat.le_of_ble_eq_true rfl, Nat.le_of_ble_eq_true rfl⟩ ⟨Nat.zero_le _, Nat.zero_le _⟩ dX4_differenceOfClimbs_29 ?_
          refine lv_istore_n (lv' := [(1, .int (jmax v1_6 (s_13.2 9))), (0, .ref (a 6)), (2, .int v2_6), (3, .int v3_6)]) hx hb dX4_differenceOfClimbs_32 rfl hl (by decide) rfl (fun ls hl => ?_)
          refine lv_iload_n hx hb dX4_differenceOfClimbs_33 rfl (lv_at hl 2 rfl) ?_
          refine lv_iconst (v := -1) hx hb dX4_differenceOfClimbs_34 (by decide) ?_
          obtain ⟨j53, hj53, h⟩ := gJoin1_in h
          have J53 : ∀ (w0_53 : Int32) (H : Heap) (locs : List Loc) (ls : Array Slot), j53 w0_53 = some out → g_S 65 D a (gE a cI s_13) s.heap H locs → lv_has ls 4 [(0, .ref (a 6)), (1, .int (jmax v1_6 (s_13.2 9))), (3, .int v3_6)] → W p l e rmX4_differenceOfClimbs s m args below meth c H locs 0 0 Q (F0 m 53 ls [.int w0_53]) := by
            intro w0_53 H locs ls h hI hl
            rw [hj53] at h
            refine lv_istore_n (lv' := [(2, .int w0_53), (0, .ref (a 6)), (1, .int (jmax v1_6 (s_13.2 9))), (3, .int v3_6)]) hx hb dX4_differenceOfClimbs_53 rfl hl (by decide) rfl (fun ls hl => ?_)
            exact J54 _ _ _ _ _ h hI (lv_sub hl [1, 2, 0, 3] rfl)
          refine lv_icmp_ne (tgt := 45) hx hb dX4_differenceOfClimbs_35 (by decide) (fun c_35 => ?_) (fun c_35 => ?_)
          · have h := (if_neg c_35).symm.trans h
            refine lv_iload_n hx hb dX4_differenceOfClimbs_45 rfl (lv_at hl 2 rfl) ?_
            refine lv_aload_n hx hb dX4_differenceOfClimbs_46 rfl (lv_at hl 1 rfl) ?_
            refine g_get F hI (by decide) gE_6 rfl ku_X4 11 (by decide) kf_X4_45 rfl dX4_differenceOfClimbs_47 ?_
            refine g_mmin F hl.1 km_X4_83 ⟨Nat.le_of_ble_eq_true rfl, Nat.le_of_ble_eq_true rfl⟩ ⟨Nat.zero_le _, Nat.zero_le _⟩ dX4_differenceOfClimbs_50 ?_
            exact J53 _ _ _ _ h hI (lv_sub hl [1, 0, 3] rfl)
          · have h := (if_pos c_35).symm.trans h
            refine lv_aload_n hx hb dX4_differenceOfClimbs_38 rfl (lv_at hl 1 rfl) ?_
            refine g_get F hI (by decide) gE_6 rfl ku_X4 11 (by decide) kf_X4_45 rfl dX4_differenceOfClimbs_39 ?_
            refine lv_goto (tgt := 53) hx hb dX4_differenceOfClimbs_42 (by decide) ?_
            exact J53 _ _ _ _ h hI (lv_sub hl [1, 0, 3] rfl)
  exact L6 _ _ _ _ _ _ _ _ h hI (lv_sub hl [3, 2, 1, 0] rfl)
/-- Spurline$Planner.takeOrder(I)V -/
def f_X4_takeOrder (N : Nat) (σ : gSt) (x1 : Int32) : Option gSt :=
  gLoop2 (fun self14 (v2_14 : Int32) (s_14 : gSt) =>
    if s_14.2 5 ≤ v2_14 then
      some s_14
    else
      self14 (v2_14 + 1) (gput s_14 14 v2_14 (f_X2_controlAt s_14 x1 v2_14))) N 0 (g_sf σ 5 (f_X2_length σ x1))
abbrev rmX4_takeOrder : Room := { frames := 2, cells := 0, slots := 0, locals := 43 }
theorem kb_X4_takeOrder : g_CB yX4_takeOrder cX4_takeOrder 3 none 1 := ⟨kc_X4_takeOrder, kn_X4, by decide +kernel⟩
set_option maxRecDepth 100000 in
set_option maxHeartbeats 4000000 in
theorem c_X4_takeOrder (l : Launch) (D : va_G) (a : Nat → Nat) (cI : ClassId) (hj : g_Inj 65 a) (N : Nat) (σ : gSt) (x1 : Int32) (out : gSt) (hh : f_X4_takeOrder N σ x1 = some out) : Met l yX4_takeOrder (Cond.code yX4_takeOrder cX4_takeOrder 3 none :: gW) rmX4_takeOrder (g_Pc 65 D a (gE a cI σ) [(cI, .int)] [.ref (a 6), .int x1]) (g_Qv 65 D a (gE a cI out)) 0 0 (g_Own 65 a) := by
  refine g_metv (by decide) hj (Nat.le_of_ble_eq_true rfl) ?_
  intro p e s m args below meth c Q ls F hl hI hq
  have hx := F.1.1
  have hb := F.1.2.1
  have hl : lv_has ls 3 [(0, .ref (a 6)), (1, .int x1)] := hl
  have h := hh
  unfold f_X4_takeOrder at h
  refine lv_aload_n hx hb dX4_takeOrder_0 rfl (lv_at hl 0 rfl) ?_
  refine lv_aload_n hx hb dX4_takeOrder_1 rfl (lv_at hl 0 rfl) ?_
  refine g_get F hI (by decide) gE_6 rfl ku_X4 2 (by decide) kf_X4_37 rfl dX4_takeOrder_2 ?_
  refine lv_iload_n hx hb dX4_takeOrder_5 rfl (lv_at hl 1 rfl) ?_
  refine g_callVi (E' := gE a cI σ) (k0 := 5) (As := [.int x1]) (rest := [.ref (a 6)]) F hI (c_X2_length l D a cI F.2.2 σ x1) kb_X2_length ki_X2_length ks_X2_length km_X4_115 ⟨Nat.le_of_ble_eq_true rfl, Nat.le_of_ble_eq_true rfl, rfl, rfl⟩ (by decide) gE_5 rfl hl.1 rfl (Nat.le_of_ble_eq_true rfl) ⟨Nat.zero_le _, Nat.zero_le _⟩ dX4_takeOrder_6 (fun H locs hI => ?_)
  refine g_put (E' := gE a cI (g_sf σ 5 (f_X2_length σ x1))) F hI (by decide) gE_6 rfl ku_X4 tyX4_ok nmX4 7 (by decide) kf_X4_98 rfl rfl rfl rfl (Nat.le_of_ble_eq_true rfl) rfl gE_sf_5 dX4_takeOrder_9 (fun H locs hI => ?_)
  refine lv_iconst (v := 0) hx hb dX4_takeOrder_12 (by decide) ?_
  refine lv_istore_n (lv' := [(2, .int 0), (0, .ref (a 6)), (1, .int x1)]) hx hb dX4_takeOrder_13 rfl hl (by decide) rfl (fun ls hl => ?_)
  obtain ⟨lp14, hz14, hs14, h⟩ := gLoop2_in h
  have L14 : ∀ (n : Nat) (v2_14 : Int32) (s_14 : gSt) (H : Heap) (locs : List Loc) (ls : Array Slot), lp14 n v2_14 s_14 = some out → g_S 65 D a (gE a cI s_14) s.heap H locs → lv_has ls 3 [(0, .ref (a 6)), (1, .int x1), (2, .int v2_14)] → W p l e rmX4_takeOrder s m args below meth c H locs 0 0 Q (F0 m 14 ls []) := by
    intro n
    induction n with
    | zero => intro v2_14 s_14 H locs ls h; rw [hz14] at h; cases h
    | succ n ih14 =>
      intro v2_14 s_14 H locs ls h hI hl
      rw [hs14] at h
      refine lv_iload_n hx hb dX4_takeOrder_14 rfl (lv_at hl 2 rfl) ?_
      refine lv_aload_n hx hb dX4_takeOrder_15 rfl (lv_at hl 0 rfl) ?_
      refine g_get F hI (by decide) gE_6 rfl ku_X4 7 (by decide) kf_X4_98 rfl dX4_takeOrder_16 ?_
      refine lv_icmp_ge (tgt := 45) hx hb dX4_takeOrder_19 (by decide) (fun c_19 => ?_) (fun c_19 => ?_)
      · have h := (if_pos c_19).symm.trans h
        have h := Option.some.inj h
        subst h
        exact hq _ _ _ _ hI dX4_takeOrder_45
      · have h := (if_neg c_19).symm.trans h
        refine lv_aload_n hx hb dX4_takeOrder_22 rfl (lv_at hl 0 rfl) ?_
        refine g_get F hI (by decide) gE_6 rfl ku_X4 5 (by decide) kf_X4_23 rfl dX4_takeOrder_23 ?_
        refine lv_iload_n hx hb dX4_takeOrder_26 rfl (lv_at hl 2 rfl) ?_
        refine lv_aload_n hx hb dX4_takeOrder_27 rfl (lv_at hl 0 rfl) ?_
        refine g_get F hI (by decide) gE_6 rfl ku_X4 2 (by decide) kf_X4_37 rfl dX4_takeOrder_28 ?_
        refine lv_iload_n hx hb dX4_takeOrder_31 rfl (lv_at hl 1 rfl) ?_
        refine lv_iload_n hx hb dX4_takeOrder_32 rfl (lv_at hl 2 rfl) ?_
        refine g_callVi (E' := gE a cI s_14) (k0 := 5) (As := [.int x1, .int v2_14]) (rest := [.int v2_14, .ref (a 23)]) F hI (c_X2_controlAt l D a cI F.2.2 s_14 x1 v2_14) kb_X2_controlAt ki_X2_controlAt ks_X2_controlAt km_X4_54 ⟨Nat.le_of_ble_eq_true rfl, Nat.le_of_ble_eq_true rfl, rfl, rfl⟩ (by decide) gE_5 rfl hl.1 rfl (Nat.le_of_ble_eq_true rfl) ⟨Nat.zero_le _, Nat.zero_le _⟩ dX4_takeOrder_33 (fun H locs hI => ?_)
        refine g_rput F hI 14 (by decide) km_X4_117 ⟨Nat.le_of_ble_eq_true rfl, Nat.le_of_ble_eq_true rfl⟩ hl.1 (Nat.le_of_ble_eq_true rfl) ⟨Nat.zero_le _, Nat.zero_le _⟩ dX4_takeOrder_36 (fun H locs hI => ?_)
        refine lv_iinc (v := v2_14 + 1) (lv' := [(2, .int (v2_14 + 1)), (0, .ref (a 6)), (1, .int x1)]) hx hb dX4_takeOrder_39 hl (k := 2) rfl rfl (by decide) rfl (fun ls hl => ?_)
        refine lv_goto (tgt := 14) hx hb dX4_takeOrder_42 (by decide) ?_
        exact ih14 _ _ _ _ _ h hI (lv_sub hl [1, 2, 0] rfl)
  exact L14 _ _ _ _ _ _ h hI (lv_sub hl [1, 2, 0] rfl)
/-- Spurline$Planner.swap(II)V -/
def f_X4_swap (σ : gSt) (x1 x2 : Int32) : gSt :=
  gput (gput σ 14 x1 (gget σ 14 x2)) 14 x2 (gget σ 14 x1)
abbrev rmX4_swap : Room := { frames := 1, cells := 0, slots := 0, locals := 22 }
theorem kb_X4_swap : g_CB yX4_swap cX4_swap 4 none 2 := ⟨kc_X4_swap, kn_X4, by decide +kernel⟩
set_option maxRecDepth 100000 in
set_option maxHeartbeats 4000000 in
theorem c_X4_swap (l : Launch) (D : va_G) (a : Nat → Nat) (cI : ClassId) (hj : g_Inj 65 a) (σ : gSt) (x1 x2 : Int32) : Met l yX4_swap (Cond.code yX4_swap cX4_swap 4 none :: gW) rmX4_swap (g_Pc 65 D a (gE a cI σ) [(cI, .int)] [.ref (a 6), .int x1, .int x2]) (g_Qv 65 D a (gE a cI (f_X4_swap σ x1 x2))) 0 0 (g_Own 65 a) := by
  generalize hh : f_X4_swap σ x1 x2 = out
  refine g_metv (by decide) hj (Nat.le_of_ble_eq_true rfl) ?_
  intro p e s m args below meth c Q ls F hl hI hq
  have hx := F.1.1
  have hb := F.1.2.1
  have hl : lv_has ls 4 [(0, .ref (a 6)), (1, .int x1), (2, .int x2)] := hl
  have h := hh
  unfold f_X4_swap at h
  refine lv_aload_n hx hb dX4_swap_0 rfl (lv_at hl 0 rfl) ?_
  refine g_get F hI (by decide) gE_6 rfl ku_X4 5 (by decide) kf_X4_23 rfl dX4_swap_1 ?_
  refine lv_iload_n hx hb dX4_swap_4 rfl (lv_at hl 1 rfl) ?_
  refine g_rget F hI 14 (by decide) km_X4_108 ⟨Nat.le_of_ble_eq_true rfl, Nat.le_of_ble_eq_true rfl⟩ hl.1 (Nat.le_of_ble_eq_true rfl) ⟨Nat.zero_le _, Nat.zero_le _⟩ dX4_swap_5 (fun H locs hI => ?_)
  refine lv_istore_n (lv' := [(3, .int (gget σ 14 x1)), (0, .ref (a 6)), (1, .int x1), (2, .int x2)]) hx hb dX4_swap_8 rfl hl (by decide) rfl (fun ls hl => ?_)
  refine lv_aload_n hx hb dX4_swap_9 rfl (lv_at hl 1 rfl) ?_
  refine g_get F hI (by decide) gE_6 rfl ku_X4 5 (by decide) kf_X4_23 rfl dX4_swap_10 ?_
  refine lv_iload_n hx hb dX4_swap_13 rfl (lv_at hl 2 rfl) ?_
  refine lv_aload_n hx hb dX4_swap_14 rfl (lv_at hl 1 rfl) ?_
  refine g_get F hI (by decide) gE_6 rfl ku_X4 5 (by decide) kf_X4_23 rfl dX4_swap_15 ?_
  refine lv_iload_n hx hb dX4_swap_18 rfl (lv_at hl 3 rfl) ?_
  refine g_rget F hI 14 (by decide) km_X4_108 ⟨Nat.le_of_ble_eq_true rfl, Nat.le_of_ble_eq_true rfl⟩ hl.1 (Nat.le_of_ble_eq_true rfl) ⟨Nat.zero_le _, Nat.zero_le _⟩ dX4_swap_19 (fun H locs hI => ?_)
  refine g_rput F hI 14 (by decide) km_X4_117 ⟨Nat.le_of_ble_eq_true rfl, Nat.le_of_ble_eq_true rfl⟩ hl.1 (Nat.le_of_ble_eq_true rfl) ⟨Nat.zero_le _, Nat.zero_le _⟩ dX4_swap_22 (fun H locs hI => ?_)
  refine lv_aload_n hx hb dX4_swap_25 rfl (lv_at hl 1 rfl) ?_
  refine g_get F hI (by decide) gE_6 rfl ku_X4 5 (by decide) kf_X4_23 rfl dX4_swap_26 ?_
  refine lv_iload_n hx hb dX4_swap_29 rfl (lv_at hl 3 rfl) ?_
  refine lv_iload_n hx hb dX4_swap_30 rfl (lv_at hl 0 rfl) ?_
  refine g_rput F hI 14 (by decide) km_X4_117 ⟨Nat.le_of_ble_eq_true rfl, Nat.le_of_ble_eq_true rfl⟩ hl.1 (Nat.le_of_ble_eq_true rfl) ⟨Nat.zero_le _, Nat.zero_le _⟩ dX4_swap_31 (fun H locs hI => ?_)
  subst h
  exact hq _ _ _ _ hI dX4_swap_34
/-- Spurline$Planner.sortBetweenEnds()V -/
def f_X4_sortBetweenEnds (N : Nat) (σ : gSt) : Option gSt :=
  gLoop2 (fun self2 (v1_2 : Int32) (s_2 : gSt) =>
    if (s_2.2 5) - 2 ≤ v1_2 then
      some s_2
    else
      gLoop2 (fun self14 (v2_14 : Int32) (s_14 : gSt) =>
        if (s_14.2 5) - 2 ≤ v2_14 then
          self2 (v1_2 + 1) s_14
        else
          gJoin1 (fun (s_53 : gSt) =>
              self14 (v2_14 + 1) s_53) (fun j53 =>
            if gget s_14 14 v2_14 ≤ gget s_14 14 (v2_14 + 1) then
              j53 s_14
            else
              j53 (f_X4_swap s_14 v2_14 (v2_14 + 1)))) N 1 s_2) N 1 σ
abbrev rmX4_sortBetweenEnds : Room := { frames := 2, cells := 0, slots := 0, locals := 45 }
theorem kb_X4_sortBetweenEnds : g_CB yX4_sortBetweenEnds cX4_sortBetweenEnds 3 none 0 := ⟨kc_X4_sortBetweenEnds, kn_X4, by decide +kernel⟩
set_option maxRecDepth 100000 in
set_option maxHeartbeats 4000000 in
theorem c_X4_sortBetweenEnds (l : Launch) (D : va_G) (a : Nat → Nat) (cI : ClassId) (hj : g_Inj 65 a) (N : Nat) (σ : gSt) (out : gSt) (hh : f_X4_sortBetweenEnds N σ = some out) : Met l yX4_sortBetweenEnds (Cond.code yX4_sortBetweenEnds cX4_sortBetweenEnds 3 none :: gW) rmX4_sortBetweenEnds (g_Pc 65 D a (gE a cI σ) [(cI, .int)] [.ref (a 6)]) (g_Qv 65 D a (gE a cI out)) 0 0 (g_Own 65 a) := by
  refine g_metv (by decide) hj (Nat.le_of_ble_eq_true rfl) ?_
  intro p e s m args below meth c Q ls F hl hI hq
  have hx := F.1.1
  have hb := F.1.2.1
  have hl : lv_has ls 3 [(0, .ref (a 6))] := hl
  have h := hh
  unfold f_X4_sortBetweenEnds at h
  refine lv_iconst (v := 1) hx hb dX4_sortBetweenEnds_0 (by decide) ?_
  refine lv_istore_n (lv' := [(1, .int 1), (0, .ref (a 6))]) hx hb dX4_sortBetweenEnds_1 rfl hl (by decide) rfl (fun ls hl => ?_)
  obtain ⟨lp2, hz2, hs2, h⟩ := gLoop2_in h
  have L2 : ∀ (n : Nat) (v1_2 : Int32) (s_2 : gSt) (H : Heap) (locs : List Loc) (ls : Array Slot), lp2 n v1_2 s_2 = some out → g_S 65 D a (gE a cI s_2) s.heap H locs → lv_has ls 3 [(0, .ref (a 6)), (1, .int v1_2)] → W p l e rmX4_sortBetweenEnds s m args below meth c H locs 0 0 Q (F0 m 2 ls []) := by
    intro n
    induction n with
    | zero => intro v1_2 s_2 H locs ls h; rw [hz2] at h; cases h
    | succ n ih2 =>
      intro v1_2 s_2 H locs ls h hI hl
      rw [hs2] at h
      refine lv_iload_n hx hb dX4_sortBetweenEnds_2 rfl (lv_at hl 1 rfl) ?_
      refine lv_aload_n hx hb dX4_sortBetweenEnds_3 rfl (lv_at hl 0 rfl) ?_
      refine g_get F hI (by decide) gE_6 rfl ku_X4 7 (by decide) kf_X4_98 rfl dX4_sortBetweenEnds_4 ?_
      refine lv_iconst (v := 2) hx hb dX4_sortBetweenEnds_7 (by decide) ?_
      refine lv_isub hx hb dX4_sortBetweenEnds_8 ?_
      refine lv_icmp_ge (tgt := 65) hx hb dX4_sortBetweenEnds_9 (by decide) (fun c_9 => ?_) (fun c_9 => ?_)
      · have h := (if_pos c_9).symm.trans h
        have h := Option.some.inj h
        subst h
        exact hq _ _ _ _ hI dX4_sortBetweenEnds_65
      · have h := (if_neg c_9).symm.trans h
        refine lv_iconst (v := 1) hx hb dX4_sortBetweenEnds_12 (by decide) ?_
        refine lv_istore_n (lv' := [(2, .int 1), (0, .ref (a 6)), (1, .int v1_2)]) hx hb dX4_sortBetweenEnds_13 rfl hl (by decide) rfl (fun ls hl => ?_)
        obtain ⟨lp14, hz14, hs14, h⟩ := gLoop2_in h
        have L14 : ∀ (n : Nat) (v2_14 : Int32) (s_14 : gSt) (H : Heap) (locs : List Loc) (ls : Array Slot), lp14 n v2_14 s_14 = some out → g_S 65 D a (gE a cI s_14) s.heap H locs → lv_has ls 3 [(0, .ref (a 6)), (1, .int v1_2), (2, .int v2_14)] → W p l e rmX4_sortBetweenEnds s m args below meth c H locs 0 0 Q (F0 m 14 ls []) := by
          intro n
          induction n with
          | zero => intro v2_14 s_14 H locs ls h; rw [hz14] at h; cases h
          | succ n ih14 =>
            intro v2_14 s_14 H locs ls h hI hl
            rw [hs14] at h
            refine lv_iload_n hx hb dX4_sortBetweenEnds_14 rfl (lv_at hl 2 rfl) ?_
            refine lv_aload_n hx hb dX4_sortBetweenEnds_15 rfl (lv_at hl 0 rfl) ?_
            refine g_get F hI (by decide) gE_6 rfl ku_X4 7 (by decide) kf_X4_98 rfl dX4_sortBetweenEnds_16 ?_
            refine lv_iconst (v := 2) hx hb dX4_sortBetweenEnds_19 (by decide) ?_
            refine lv_isub hx hb dX4_sortBetweenEnds_20 ?_
            refine lv_icmp_ge (tgt := 59) hx hb dX4_sortBetweenEnds_21 (by decide) (fun c_21 => ?_) (fun c_21 => ?_)
            · have h := (if_pos c_21).symm.trans h
              refine lv_iinc (v := v1_2 + 1) (lv' := [(1, .int (v1_2 + 1)), (0, .ref (a 6)), (2, .int v2_14)]) hx hb dX4_sortBetweenEnds_59 hl (k := 1) rfl rfl (by decide) rfl (fun ls hl => ?_)
              refine lv_goto (tgt := 2) hx hb dX4_sortBetweenEnds_62 (by decide) ?_
              exact ih2 _ _ _ _ _ h hI (lv_sub hl [1, 0] rfl)
            · have h := (if_neg c_21).symm.trans h
              refine lv_aload_n hx hb dX4_sortBetweenEnds_24 rfl (lv_at hl 0 rfl) ?_
              refine g_get F hI (by decide) gE_6 rfl ku_X4 5 (by decide) kf_X4_23 rfl dX4_sortBetweenEnds_25 ?_
              refine lv_iload_n hx hb dX4_sortBetweenEnds_28 rfl (lv_at hl 2 rfl) ?_
              refine g_rget F hI 14 (by decide) km_X4_108 ⟨Nat.le_of_ble_eq_true rfl, Nat.le_of_ble_eq_true rfl⟩ hl.1 (Nat.le_of_ble_eq_true rfl) ⟨Nat.zero_le _, Nat.zero_le _⟩ dX4_sortBetweenEnds_29 (fun H locs hI => ?_)
              refine lv_aload_n hx hb dX4_sortBetweenEnds_32 rfl (lv_at hl 0 rfl) ?_
              refine g_get F hI (by decide) gE_6 rfl ku_X4 5 (by decide) kf_X4_23 rfl dX4_sortBetweenEnds_33 ?_
              refine lv_iload_n hx hb dX4_sortBetweenEnds_36 rfl (lv_at hl 2 rfl) ?_
              refine lv_iconst (v := 1) hx hb dX4_sortBetweenEnds_37 (by decide) ?_
              refine lv_iadd hx hb dX4_sortBetweenEnds_38 ?_
              refine g_rget F hI 14 (by decide) km_X4_108 ⟨Nat.le_of_ble_eq_true rfl, Nat.le_of_ble_eq_true rfl⟩ hl.1 (Nat.le_of_ble_eq_true rfl) ⟨Nat.zero_le _, Nat.zero_le _⟩ dX4_sortBetweenEnds_39 (fun H locs hI => ?_)
              obtain ⟨j53, hj53, h⟩ := gJoin1_in h
              have J53 : ∀ (s_53 : gSt) (H : Heap) (locs : List Loc) (ls : Array Slot), j53 s_53 = some out → g_S 65 D a (gE a cI s_53) s.heap H locs → lv_has ls 3 [(0, .ref (a 6)), (1, .int v1_2), (2, .int v2_14)] → W p l e rmX4_sortBetweenEnds s m args below meth c H locs 0 0 Q (F0 m 53 ls []) := by
                intro s_53 H locs ls h hI hl
                rw [hj53] at h
                refine lv_iinc (v := v2_14 + 1) (lv' := [(2, .int (v2_14 + 1)), (0, .ref (a 6)), (1, .int v1_2)]) hx hb dX4_sortBetweenEnds_53 hl (k := 2) rfl rfl (by decide) rfl (fun ls hl => ?_)
                refine lv_goto (tgt := 14) hx hb dX4_sortBetweenEnds_56 (by decide) ?_
                exact ih14 _ _ _ _ _ h hI (lv_sub hl [1, 2, 0] rfl)
              refine lv_icmp_le (tgt := 53) hx hb dX4_sortBetweenEnds_42 (by decide) (fun c_42 => ?_) (fun c_42 => ?_)
              · have h := (if_pos c_42).symm.trans h
                exact J53 _ _ _ _ h hI (lv_sub hl [0, 1, 2] rfl)
              · have h := (if_neg c_42).symm.trans h
                refine lv_aload_n hx hb dX4_sortBetweenEnds_45 rfl (lv_at hl 0 rfl) ?_
                refine lv_iload_n hx hb dX4_sortBetweenEnds_46 rfl (lv_at hl 2 rfl) ?_
                refine lv_iload_n hx hb dX4_sortBetweenEnds_47 rfl (lv_at hl 2 rfl) ?_
                refine lv_iconst (v := 1) hx hb dX4_sortBetweenEnds_48 (by decide) ?_
                refine lv_iadd hx hb dX4_sortBetweenEnds_49 ?_
                refine g_callVv (E' := gE a cI (f_X4_swap s_14 v2_14 (v2_14 + 1))) (k0 := 6) (As := [.int v2_14, .int (v2_14 + 1)]) (rest := []) F hI (c_X4_swap l D a cI F.2.2 s_14 v2_14 (v2_14 + 1)) kb_X4_swap ki_X4_swap ks_X4_swap km_X4_121 ⟨Nat.le_of_ble_eq_true rfl, Nat.le_of_ble_eq_true rfl, rfl, rfl⟩ (by decide) gE_6 rfl hl.1 rfl (Nat.le_of_ble_eq_true rfl) ⟨Nat.zero_le _, Nat.zero_le _⟩ dX4_sortBetweenEnds_50 (fun H locs hI => ?_)
                exact J53 _ _ _ _ h hI (lv_sub hl [0, 1, 2] rfl)
        exact L14 _ _ _ _ _ _ h hI (lv_sub hl [1, 2, 0] rfl)
  exact L2 _ _ _ _ _ _ h hI (lv_sub hl [1, 0] rfl)
/-- Spurline$Planner.legNumber(II)I -/
def f_X4_legNumber (x0 x1 : Int32) : Int32 :=
  (x0 * 12) + x1
abbrev rmX4_legNumber : Room := { frames := 0, cells := 0, slots := 0, locals := 0 }
theorem kb_X4_legNumber : g_CB yX4_legNumber cX4_legNumber 2 (some .int) 2 := ⟨kc_X4_legNumber, kn_X4, by decide +kernel⟩
set_option maxRecDepth 100000 in
set_option maxHeartbeats 4000000 in
theorem c_X4_legNumber (l : Launch) (D : va_G) (a : Nat → Nat) (cI : ClassId) (hj : g_Inj 65 a) (σ : gSt) (x0 x1 : Int32) : Met l yX4_legNumber (Cond.code yX4_legNumber cX4_legNumber 2 (some .int) :: gW) rmX4_legNumber (g_Pc 65 D a (gE a cI σ) [(cI, .int)] [.int x0, .int x1]) (g_Qi 65 D a (gE a cI σ) (f_X4_legNumber x0 x1)) 0 0 (g_Own 65 a) := by
  generalize hh : f_X4_legNumber x0 x1 = out
  refine g_meti (by decide) hj (Nat.le_of_ble_eq_true rfl) ?_
  intro p e s m args below meth c Q ls F hl hI hq
  have hx := F.1.1
  have hb := F.1.2.1
  have hl : lv_has ls 2 [(0, .int x0), (1, .int x1)] := hl
  have h := hh
  unfold f_X4_legNumber at h
  refine lv_iload_n hx hb dX4_legNumber_0 rfl (lv_at hl 0 rfl) ?_
  refine lv_bipush (v := 12) hx hb dX4_legNumber_1 (by decide) ?_
  refine lv_imul hx hb dX4_legNumber_3 ?_
  refine lv_iload_n hx hb dX4_legNumber_4 rfl (lv_at hl 1 rfl) ?_
  refine lv_iadd hx hb dX4_legNumber_5 ?_
  subst h
  exact hq _ _ _ _ hI dX4_legNumber_6
/-- Spurline$Planner.measureLegs()V -/
def f_X4_measureLegs (N : Nat) (σ : gSt) : Option gSt :=
  gLoop2 (fun self2 (v1_2 : Int32) (s_2 : gSt) =>
    if s_2.2 5 ≤ v1_2 then
      some s_2
    else
      (f_X6_search N s_2 (f_X1_cellOf s_2 (gget s_2 14 v1_2)) 0).bind (fun (s_32 : gSt) =>
      gLoop2 (fun self37 (v3_37 : Int32) (s_37 : gSt) =>
        if s_37.2 5 ≤ v3_37 then
          self2 (v1_2 + 1) s_37
        else
          self37 (v3_37 + 1) (gput (gput s_37 12 (f_X4_legNumber (gget s_2 14 v1_2) (gget s_37 14 v3_37)) (f_X6_costTo s_37 (f_X1_cellOf s_37 (gget s_37 14 v3_37)))) 13 (f_X4_legNumber (gget s_2 14 v1_2) (gget s_37 14 v3_37)) (f_X6_climbTo (gput s_37 12 (f_X4_legNumber (gget s_2 14 v1_2) (gget s_37 14 v3_37)) (f_X6_costTo s_37 (f_X1_cellOf s_37 (gget s_37 14 v3_37)))) (f_X1_cellOf (gput s_37 12 (f_X4_legNumber (gget s_2 14 v1_2) (gget s_37 14 v3_37)) (f_X6_costTo s_37 (f_X1_cellOf s_37 (gget s_37 14 v3_37)))) (gget s_37 14 v3_37))))) N 0 s_32)) N 0 σ
abbrev rmX4_measureLegs : Room := { frames := 4, cells := 0, slots := 0, locals := 94 }
theorem kb_X4_measureLegs : g_CB yX4_measureLegs cX4_measureLegs 5 none 0 := ⟨kc_X4_measureLegs, kn_X4, by decide +kernel⟩
set_option maxRecDepth 100000 in
set_option maxHeartbeats 4000000 in
theorem c_X4_measureLegs (l : Launch) (D : va_G) (a : Nat → Nat) (cI : ClassId) (hj : g_Inj 65 a) (N : Nat) (σ : gSt) (out : gSt) (hh : f_X4_measureLegs N σ = some out) : Met l yX4_measureLegs (Cond.code yX4_measureLegs cX4_measureLegs 5 none :: gW) rmX4_measureLegs (g_Pc 65 D a (gE a cI σ) [(cI, .int)] [.ref (a 6)]) (g_Qv 65 D a (gE a cI out)) 0 0 (g_Own 65 a) := by
  refine g_metv (by decide) hj (Nat.le_of_ble_eq_true rfl) ?_
  intro p e s m args below meth c Q ls F hl hI hq
  have hx := F.1.1
  have hb := F.1.2.1
  have hl : lv_has ls 5 [(0, .ref (a 6))] := hl
  have h := hh
  unfold f_X4_measureLegs at h
  refine lv_iconst (v := 0) hx hb dX4_measureLegs_0 (by decide) ?_
  refine lv_istore_n (lv' := [(1, .int 0), (0, .ref (a 6))]) hx hb dX4_measureLegs_1 rfl hl (by decide) rfl (fun ls hl => ?_)
  obtain ⟨lp2, hz2, hs2, h⟩ := gLoop2_in h
  have L2 : ∀ (n : Nat) (v1_2 : Int32) (s_2 : gSt) (H : Heap) (locs : List Loc) (ls : Array Slot), lp2 n v1_2 s_2 = some out → g_S 65 D a (gE a cI s_2) s.heap H locs → lv_has ls 5 [(0, .ref (a 6)), (1, .int v1_2)] → W p l e rmX4_measureLegs s m args below meth c H locs 0 0 Q (F0 m 2 ls []) := by
    intro n
    induction n with
    | zero => intro v1_2 s_2 H locs ls h; rw [hz2] at h; cases h
    | succ n ih2 =>
      intro v1_2 s_2 H locs ls h hI hl
      rw [hs2] at h
      refine lv_iload_n hx hb dX4_measureLegs_2 rfl (lv_at hl 1 rfl) ?_
      refine lv_aload_n hx hb dX4_measureLegs_3 rfl (lv_at hl 0 rfl) ?_
      refine g_get F hI (by decide) gE_6 rfl ku_X4 7 (by decide) kf_X4_98 rfl dX4_measureLegs_4 ?_
      refine lv_icmp_ge (tgt := 125) hx hb dX4_measureLegs_7 (by decide) (fun c_7 => ?_) (fun c_7 => ?_)
      · have h := (if_pos c_7).symm.trans h
        have h := Option.some.inj h
        subst h
        exact hq _ _ _ _ hI dX4_measureLegs_125
      · have h := (if_neg c_7).symm.trans h
        refine lv_aload_n hx hb dX4_measureLegs_10 rfl (lv_at hl 0 rfl) ?_
        refine g_get F hI (by decide) gE_6 rfl ku_X4 5 (by decide) kf_X4_23 rfl dX4_measureLegs_11 ?_
        refine lv_iload_n hx hb dX4_measureLegs_14 rfl (lv_at hl 1 rfl) ?_
        refine g_rget F hI 14 (by decide) km_X4_108 ⟨Nat.le_of_ble_eq_true rfl, Nat.le_of_ble_eq_true rfl⟩ hl.1 (Nat.le_of_ble_eq_true rfl) ⟨Nat.zero_le _, Nat.zero_le _⟩ dX4_measureLegs_15 (fun H locs hI => ?_)
        refine lv_istore_n (lv' := [(2, .int (gget s_2 14 v1_2)), (0, .ref (a 6)), (1, .int v1_2)]) hx hb dX4_measureLegs_18 rfl hl (by decide) rfl (fun ls hl => ?_)
        refine lv_aload_n hx hb dX4_measureLegs_19 rfl (lv_at hl 1 rfl) ?_
        refine g_get F hI (by decide) gE_6 rfl ku_X4 0 (by decide) kf_X4_29 rfl dX4_measureLegs_20 ?_
        refine lv_aload_n hx hb dX4_measureLegs_23 rfl (lv_at hl 1 rfl) ?_
        refine g_get F hI (by decide) gE_6 rfl ku_X4 1 (by decide) kf_X4_33 rfl dX4_measureLegs_24 ?_
        refine lv_iload_n hx hb dX4_measureLegs_27 rfl (lv_at hl 0 rfl) ?_
        refine g_callVi (E' := gE a cI s_2) (k0 := 4) (As := [.int (gget s_2 14 v1_2)]) (rest := [.ref (a 3)]) F hI (c_X1_cellOf l D a cI F.2.2 s_2 (gget s_2 14 v1_2)) kb_X1_cellOf ki_X1_cellOf ks_X1_cellOf km_X4_58 ⟨Nat.le_of_ble_eq_true rfl, Nat.le_of_ble_eq_true rfl, rfl, rfl⟩ (by decide) gE_4 rfl hl.1 rfl (Nat.le_of_ble_eq_true rfl) ⟨Nat.zero_le _, Nat.zero_le _⟩ dX4_measureLegs_28 (fun H locs hI => ?_)
        refine lv_iconst (v := 0) hx hb dX4_measureLegs_31 (by decide) ?_
        obtain ⟨s_32, e_32, h⟩ := gBind_in h
        refine g_callVv (E' := gE a cI s_32) (k0 := 3) (As := [.int (f_X1_cellOf s_2 (gget s_2 14 v1_2)), .int 0]) (rest := []) F hI (c_X6_search l D a cI F.2.2 N s_2 (f_X1_cellOf s_2 (gget s_2 14 v1_2)) 0 s_32 e_32) kb_X6_search ki_X6_search ks_X6_search km_X4_63 ⟨Nat.le_of_ble_eq_true rfl, Nat.le_of_ble_eq_true rfl, rfl, rfl⟩ (by decide) gE_3 rfl hl.1 rfl (Nat.le_of_ble_eq_true rfl) ⟨Nat.zero_le _, Nat.zero_le _⟩ dX4_measureLegs_32 (fun H locs hI => ?_)
        refine lv_iconst (v := 0) hx hb dX4_measureLegs_35 (by decide) ?_
        refine lv_istore_n (lv' := [(3, .int 0), (2, .int (gget s_2 14 v1_2)), (0, .ref (a 6)), (1, .int v1_2)]) hx hb dX4_measureLegs_36 rfl hl (by decide) rfl (fun ls hl => ?_)
        obtain ⟨lp37, hz37, hs37, h⟩ := gLoop2_in h
        have L37 : ∀ (n : Nat) (v3_37 : Int32) (s_37 : gSt) (H : Heap) (locs : List Loc) (ls : Array Slot), lp37 n v3_37 s_37 = some out → g_S 65 D a (gE a cI s_37) s.heap H locs → lv_has ls 5 [(0, .ref (a 6)), (1, .int v1_2), (2, .int (gget s_2 14 v1_2)), (3, .int v3_37)] → W p l e rmX4_measureLegs s m args below meth c H locs 0 0 Q (F0 m 37 ls []) := by
          intro n
          induction n with
          | zero => intro v3_37 s_37 H locs ls h; rw [hz37] at h; cases h
          | succ n ih37 =>
            intro v3_37 s_37 H locs ls h hI hl
            rw [hs37] at h
            refine lv_iload_n hx hb dX4_measureLegs_37 rfl (lv_at hl 3 rfl) ?_
            refine lv_aload_n hx hb dX4_measureLegs_38 rfl (lv_at hl 0 rfl) ?_
            refine g_get F hI (by decide) gE_6 rfl ku_X4 7 (by decide) kf_X4_98 rfl dX4_measureLegs_39 ?_
            refine lv_icmp_ge (tgt := 119) hx hb dX4_measureLegs_42 (by decide) (fun c_42 => ?_) (fun c_42 => ?_)
            · have h := (if_pos c_42).symm.trans h
              refine lv_iinc (v := v1_2 + 1) (lv' := [(1, .int (v1_2 + 1)), (0, .ref (a 6)), (2, .int (gget s_2 14 v1_2)), (3, .int v3_37)]) hx hb dX4_measureLegs_119 hl (k := 1) rfl rfl (by decide) rfl (fun ls hl => ?_)
              refine lv_goto (tgt := 2) hx hb dX4_measureLegs_122 (by decide) ?_
              exact ih2 _ _ _ _ _ h hI (lv_sub hl [1, 0] rfl)
            · have h := (if_neg c_42).symm.trans h
              refine lv_aload_n hx hb dX4_measureLegs_45 rfl (lv_at hl 0 rfl) ?_
              refine g_get F hI (by decide) gE_6 rfl ku_X4 5 (by decide) kf_X4_23 rfl dX4_measureLegs_46 ?_
              refine lv_iload_n hx hb dX4_measureLegs_49 rfl (lv_at hl 3 rfl) ?_
              refine g_rget F hI 14 (by decide) km_X4_108 ⟨Nat.le_of_ble_eq_true rfl, Nat.le_of_ble_eq_true rfl⟩ hl.1 (Nat.le_of_ble_eq_true rfl) ⟨Nat.zero_le _, Nat.zero_le _⟩ dX4_measureLegs_50 (fun H locs hI => ?_)
              refine lv_istore (lv' := [(4, .int (gget s_37 14 v3_37)), (0, .ref (a 6)), (1, .int v1_2), (2, .int (gget s_2 14 v1_2)), (3, .int v3_37)]) hx hb dX4_measureLegs_53 hl (by decide) rfl (fun ls hl => ?_)
              refine lv_aload_n hx hb dX4_measureLegs_55 rfl (lv_at hl 1 rfl) ?_
              refine g_get F hI (by decide) gE_6 rfl ku_X4 3 (by decide) kf_X4_14 rfl dX4_measureLegs_56 ?_
              refine lv_iload_n hx hb dX4_measureLegs_59 rfl (lv_at hl 3 rfl) ?_
              refine lv_iload hx hb dX4_measureLegs_60 (lv_at hl 0 rfl) ?_
              refine g_callSi (E' := gE a cI s_37) (As := [.int (gget s_2 14 v1_2), .int (gget s_37 14 v3_37)]) (rest := [.ref (a 21)]) F hI (c_X4_legNumber l D a cI F.2.2 s_37 (gget s_2 14 v1_2) (gget s_37 14 v3_37)) kb_X4_legNumber kt_X4_legNumber km_X4_124 ⟨Nat.le_of_ble_eq_true rfl, Nat.le_of_ble_eq_true rfl, rfl, rfl⟩ hl.1 rfl (Nat.le_of_ble_eq_true rfl) ⟨Nat.zero_le _, Nat.zero_le _⟩ dX4_measureLegs_62 (fun H locs hI => ?_)
              refine lv_aload_n hx hb dX4_measureLegs_65 rfl (lv_at hl 1 rfl) ?_
              refine g_get F hI (by decide) gE_6 rfl ku_X4 0 (by decide) kf_X4_29 rfl dX4_measureLegs_66 ?_
              refine lv_aload_n hx hb dX4_measureLegs_69 rfl (lv_at hl 1 rfl) ?_
              refine g_get F hI (by decide) gE_6 rfl ku_X4 1 (by decide) kf_X4_33 rfl dX4_measureLegs_70 ?_
              refine lv_iload hx hb dX4_measureLegs_73 (lv_at hl 0 rfl) ?_
              refine g_callVi (E' := gE a cI s_37) (k0 := 4) (As := [.int (gget s_37 14 v3_37)]) (rest := [.ref (a 3), .int (f_X4_legNumber (gget s_2 14 v1_2) (gget s_37 14 v3_37)), .ref (a 21)]) F hI (c_X1_cellOf l D a cI F.2.2 s_37 (gget s_37 14 v3_37)) kb_X1_cellOf ki_X1_cellOf ks_X1_cellOf km_X4_58 ⟨Nat.le_of_ble_eq_true rfl, Nat.le_of_ble_eq_true rfl, rfl, rfl⟩ (by decide) gE_4 rfl hl.1 rfl (Nat.le_of_ble_eq_true rfl) ⟨Nat.zero_le _, Nat.zero_le _⟩ dX4_measureLegs_75 (fun H locs hI => ?_)
              refine g_callVi (E' := gE a cI s_37) (k0 := 3) (As := [.int (f_X1_cellOf s_37 (gget s_37 14 v3_37))]) (rest := [.int (f_X4_legNumber (gget s_2 14 v1_2) (gget s_37 14 v3_37)), .ref (a 21)]) F hI (c_X6_costTo l D a cI F.2.2 s_37 (f_X1_cellOf s_37 (gget s_37 14 v3_37))) kb_X6_costTo ki_X6_costTo ks_X6_costTo km_X4_69 ⟨Nat.le_of_ble_eq_true rfl, Nat.le_of_ble_eq_true rfl, rfl, rfl⟩ (by decide) gE_3 rfl hl.1 rfl (Nat.le_of_ble_eq_true rfl) ⟨Nat.zero_le _, Nat.zero_le _⟩ dX4_measureLegs_78 (fun H locs hI => ?_)
              refine g_rput F hI 12 (by decide) km_X4_117 ⟨Nat.le_of_ble_eq_true rfl, Nat.le_of_ble_eq_true rfl⟩ hl.1 (Nat.le_of_ble_eq_true rfl) ⟨Nat.zero_le _, Nat.zero_le _⟩ dX4_measureLegs_81 (fun H locs hI => ?_)
              refine lv_aload_n hx hb dX4_measureLegs_84 rfl (lv_at hl 1 rfl) ?_
              refine g_get F hI (by decide) gE_6 rfl ku_X4 4 (by decide) kf_X4_20 rfl dX4_measureLegs_85 ?_
              refine lv_iload_n hx hb dX4_measureLegs_88 rfl (lv_at hl 3 rfl) ?_
              refine lv_iload hx hb dX4_measureLegs_89 (lv_at hl 0 rfl) ?_
              refine g_callSi (E' := gE a cI (gput s_37 12 (f_X4_legNumber (gget s_2 14 v1_2) (gget s_37 14 v3_37)) (f_X6_costTo s_37 (f_X1_cellOf s_37 (gget s_37 14 v3_37))))) (As := [.int (gget s_2 14 v1_2), .int (gget s_37 14 v3_37)]) (rest := [.ref (a 22)]) F hI (c_X4_legNumber l D a cI F.2.2 (gput s_37 12 (f_X4_legNumber (gget s_2 14 v1_2) (gget s_37 14 v3_37)) (f_X6_costTo s_37 (f_X1_cellOf s_37 (gget s_37 14 v3_37)))) (gget s_2 14 v1_2) (gget s_37 14 v3_37)) kb_X4_legNumber kt_X4_legNumber km_X4_124 ⟨Nat.le_of_ble_eq_true rfl, Nat.le_of_ble_eq_true rfl, rfl, rfl⟩ hl.1 rfl (Nat.le_of_ble_eq_true rfl) ⟨Nat.zero_le _, Nat.zero_le _⟩ dX4_measureLegs_91 (fun H locs hI => ?_)
              refine lv_aload_n hx hb dX4_measureLegs_94 rfl (lv_at hl 1 rfl) ?_
              refine g_get F hI (by decide) gE_6 rfl ku_X4 0 (by decide) kf_X4_29 rfl dX4_measureLegs_95 ?_
              refine lv_aload_n hx hb dX4_measureLegs_98 rfl (lv_at hl 1 rfl) ?_
              refine g_get F hI (by decide) gE_6 rfl ku_X4 1 (by decide) kf_X4_33 rfl dX4_measureLegs_99 ?_
              refine lv_iload hx hb dX4_measureLegs_102 (lv_at hl 0 rfl) ?_
              refine g_callVi (E' := gE a cI (gput s_37 12 (f_X4_legNumber (gget s_2 14 v1_2) (gget s_37 14 v3_37)) (f_X6_costTo s_37 (f_X1_cellOf s_37 (gget s_37 14 v3_37))))) (k0 := 4) (As := [.int (gget s_37 14 v3_37)]) (rest := [.ref (a 3), .int (f_X4_legNumber (gget s_2 14 v1_2) (gget s_37 14 v3_37)), .ref (a 22)]) F hI (c_X1_cellOf l D a cI F.2.2 (gput s_37 12 (f_X4_legNumber (gget s_2 14 v1_2) (gget s_37 14 v3_37)) (f_X6_costTo s_37 (f_X1_cellOf s_37 (gget s_37 14 v3_37)))) (gget s_37 14 v3_37)) kb_X1_cellOf ki_X1_cellOf ks_X1_cellOf km_X4_58 ⟨Nat.le_of_ble_eq_true rfl, Nat.le_of_ble_eq_true rfl, rfl, rfl⟩ (by decide) gE_4 rfl hl.1 rfl (Nat.le_of_ble_eq_true rfl) ⟨Nat.zero_le _, Nat.zero_le _⟩ dX4_measureLegs_104 (fun H locs hI => ?_)
              refine g_callVi (E' := gE a cI (gput s_37 12 (f_X4_legNumber (gget s_2 14 v1_2) (gget s_37 14 v3_37)) (f_X6_costTo s_37 (f_X1_cellOf s_37 (gget s_37 14 v3_37))))) (k0 := 3) (As := [.int (f_X1_cellOf (gput s_37 12 (f_X4_legNumber (gget s_2 14 v1_2) (gget s_37 14 v3_37)) (f_X6_costTo s_37 (f_X1_cellOf s_37 (gget s_37 14 v3_37)))) (gget s_37 14 v3_37))]) (rest := [.int (f_X4_legNumber (gget s_2 14 v1_2) (gget s_37 14 v3_37)), .ref (a 22)]) F hI (c_X6_climbTo l D a cI F.2.2 (gput s_37 12 (f_X4_legNumber (gget s_2 14 v1_2) (gget s_37 14 v3_37)) (f_X6_costTo s_37 (f_X1_cellOf s_37 (gget s_37 14 v3_37)))) (f_X1_cellOf (gput s_37 12 (f_X4_legNumber (gget s_2 14 v1_2) (gget s_37 14 v3_37)) (f_X6_costTo s_37 (f_X1_cellOf s_37 (gget s_37 14 v3_37)))) (gget s_37 14 v3_37))) kb_X6_climbTo ki_X6_climbTo ks_X6_climbTo km_X4_72 ⟨Nat.le_of_ble_eq_true rfl, Nat.le_of_ble_eq_true rfl, rfl, rfl⟩ (by decide) gE_3 rfl hl.1 rfl (Nat.le_of_ble_eq_true rfl) ⟨Nat.zero_le _, Nat.zero_le _⟩ dX4_measureLegs_107 (fun H locs hI => ?_)
              refine g_rput F hI 13 (by decide) km_X4_117 ⟨Nat.le_of_ble_eq_true rfl, Nat.le_of_ble_eq_true rfl⟩ hl.1 (Nat.le_of_ble_eq_true rfl) ⟨Nat.zero_le _, Nat.zero_le _⟩ dX4_measureLegs_110 (fun H locs hI => ?_)
              refine lv_iinc (v := v3_37 + 1) (lv' := [(3, .int (v3_37 + 1)), (4, .int (gget s_37 14 v3_37)), (0, .ref (a 6)), (1, .int v1_2), (2, .int (gget s_2 14 v1_2))]) hx hb dX4_measureLegs_113 hl (k := 4) rfl rfl (by decide) rfl (fun ls hl => ?_)
              refine lv_goto (tgt := 37) hx hb dX4_measureLegs_116 (by decide) ?_
              exact ih37 _ _ _ _ _ h hI (lv_sub hl [2, 3, 4, 0] rfl)
        exact L37 _ _ _ _ _ _ h hI (lv_sub hl [2, 3, 1, 0] rfl)
  exact L2 _ _ _ _ _ _ h hI (lv_sub hl [1, 0] rfl)
/-- Spurline$Planner.keepOrder(II)V -/
def f_X4_keepOrder (N : Nat) (σ : gSt) (x1 x2 : Int32) : Option gSt :=
  gLoop2 (fun self12 (v3_12 : Int32) (s_12 : gSt) =>
    if s_12.2 5 ≤ v3_12 then
      some s_12
    else
      self12 (v3_12 + 1) (gput s_12 15 v3_12 (gget s_12 14 v3_12))) N 0 (g_sf (g_sf σ 6 x1) 7 x2)
abbrev rmX4_keepOrder : Room := { frames := 1, cells := 0, slots := 0, locals := 22 }
theorem kb_X4_keepOrder : g_CB yX4_keepOrder cX4_keepOrder 4 none 2 := ⟨kc_X4_keepOrder, kn_X4, by decide +kernel⟩
set_option maxRecDepth 100000 in
set_option maxHeartbeats 4000000 in
theorem c_X4_keepOrder (l : Launch) (D : va_G) (a : Nat → Nat) (cI : ClassId) (hj : g_Inj 65 a) (N : Nat) (σ : gSt) (x1 x2 : Int32) (out : gSt) (hh : f_X4_keepOrder N σ x1 x2 = some out) : Met l yX4_keepOrder (Cond.code yX4_keepOrder cX4_keepOrder 4 none :: gW) rmX4_keepOrder (g_Pc 65 D a (gE a cI σ) [(cI, .int)] [.ref (a 6), .int x1, .int x2]) (g_Qv 65 D a (gE a cI out)) 0 0 (g_Own 65 a) := by
  refine g_metv (by decide) hj (Nat.le_of_ble_eq_true rfl) ?_
  intro p e s m args below meth c Q ls F hl hI hq
  have hx := F.1.1
  have hb := F.1.2.1
  have hl : lv_has ls 4 [(0, .ref (a 6)), (1, .int x1), (2, .int x2)] := hl
  have h := hh
  unfold f_X4_keepOrder at h
  refine lv_aload_n hx hb dX4_keepOrder_0 rfl (lv_at hl 0 rfl) ?_
  refine lv_iload_n hx hb dX4_keepOrder_1 rfl (lv_at hl 1 rfl) ?_
  refine g_put (E' := gE a cI (g_sf σ 6 x1)) F hI (by decide) gE_6 rfl ku_X4 tyX4_ok nmX4 8 (by decide) kf_X4_130 rfl rfl rfl rfl (Nat.le_of_ble_eq_true rfl) rfl gE_sf_6 dX4_keepOrder_2 (fun H locs hI => ?_)
  refine lv_aload_n hx hb dX4_keepOrder_5 rfl (lv_at hl 0 rfl) ?_
  refine lv_iload_n hx hb dX4_keepOrder_6 rfl (lv_at hl 2 rfl) ?_
  refine g_put (E' := gE a cI (g_sf (g_sf σ 6 x1) 7 x2)) F hI (by decide) gE_6 rfl ku_X4 tyX4_ok nmX4 9 (by decide) kf_X4_95 rfl rfl rfl rfl (Nat.le_of_ble_eq_true rfl) rfl gE_sf_7 dX4_keepOrder_7 (fun H locs hI => ?_)
  refine lv_iconst (v := 0) hx hb dX4_keepOrder_10 (by decide) ?_
  refine lv_istore_n (lv' := [(3, .int 0), (0, .ref (a 6)), (1, .int x1), (2, .int x2)]) hx hb dX4_keepOrder_11 rfl hl (by decide) rfl (fun ls hl => ?_)
  obtain ⟨lp12, hz12, hs12, h⟩ := gLoop2_in h
  have L12 : ∀ (n : Nat) (v3_12 : Int32) (s_12 : gSt) (H : Heap) (locs : List Loc) (ls : Array Slot), lp12 n v3_12 s_12 = some out → g_S 65 D a (gE a cI s_12) s.heap H locs → lv_has ls 4 [(0, .ref (a 6)), (3, .int v3_12)] → W p l e rmX4_keepOrder s m args below meth c H locs 0 0 Q (F0 m 12 ls []) := by
    intro n
    induction n with
    | zero => intro v3_12 s_12 H locs ls h; rw [hz12] at h; cases h
    | succ n ih12 =>
      intro v3_12 s_12 H locs ls h hI hl
      rw [hs12] at h
      refine lv_iload_n hx hb dX4_keepOrder_12 rfl (lv_at hl 1 rfl) ?_
      refine lv_aload_n hx hb dX4_keepOrder_13 rfl (lv_at hl 0 rfl) ?_
      refine g_get F hI (by decide) gE_6 rfl ku_X4 7 (by decide) kf_X4_98 rfl dX4_keepOrder_14 ?_
      refine lv_icmp_ge (tgt := 42) hx hb dX4_keepOrder_17 (by decide) (fun c_17 => ?_) (fun c_17 => ?_)
      · have h := (if_pos c_17).symm.trans h
        have h := Option.some.inj h
        subst h
        exact hq _ _ _ _ hI dX4_keepOrder_42
      · have h := (if_neg c_17).symm.trans h
        refine lv_aload_n hx hb dX4_keepOrder_20 rfl (lv_at hl 0 rfl) ?_
        refine g_get F hI (by decide) gE_6 rfl ku_X4 6 (by decide) kf_X4_26 rfl dX4_keepOrder_21 ?_
        refine lv_iload_n hx hb dX4_keepOrder_24 rfl (lv_at hl 1 rfl) ?_
        refine lv_aload_n hx hb dX4_keepOrder_25 rfl (lv_at hl 0 rfl) ?_
        refine g_get F hI (by decide) gE_6 rfl ku_X4 5 (by decide) kf_X4_23 rfl dX4_keepOrder_26 ?_
        refine lv_iload_n hx hb dX4_keepOrder_29 rfl (lv_at hl 1 rfl) ?_
        refine g_rget F hI 14 (by decide) km_X4_108 ⟨Nat.le_of_ble_eq_true rfl, Nat.le_of_ble_eq_true rfl⟩ hl.1 (Nat.le_of_ble_eq_true rfl) ⟨Nat.zero_le _, Nat.zero_le _⟩ dX4_keepOrder_30 (fun H locs hI => ?_)
        refine g_rput F hI 15 (by decide) km_X4_117 ⟨Nat.le_of_ble_eq_true rfl, Nat.le_of_ble_eq_true rfl⟩ hl.1 (Nat.le_of_ble_eq_true rfl) ⟨Nat.zero_le _, Nat.zero_le _⟩ dX4_keepOrder_33 (fun H locs hI => ?_)
        refine lv_iinc (v := v3_12 + 1) (lv' := [(3, .int (v3_12 + 1)), (0, .ref (a 6))]) hx hb dX4_keepOrder_36 hl (k := 1) rfl rfl (by decide) rfl (fun ls hl => ?_)
        refine lv_goto (tgt := 12) hx hb dX4_keepOrder_39 (by decide) ?_
        exact ih12 _ _ _ _ _ h hI (lv_sub hl [1, 0] rfl)
  exact L12 _ _ _ _ _ _ h hI (lv_sub hl [1, 0] rfl)
/-- Spurline$Planner.judgeOrder(I)V -/
def f_X4_judgeOrder (N : Nat) (σ : gSt) (x1 : Int32) : Option gSt :=
  gLoop3 (fun self7 (v2_7 : Int32) (v3_7 : Int32) (v4_7 : Int32) =>
    if σ.2 5 ≤ v4_7 + 1 then
      gJoin0 (
          (f_X4_keepOrder N σ (jabs (v3_7 - x1)) v2_7).bind (fun (s_133 : gSt) =>
          some s_133)) (fun j129 =>
        if σ.2 7 = (-1) then
          j129
        else
          if jabs (v3_7 - x1) < σ.2 6 then
            j129
          else
            if jabs (v3_7 - x1) = σ.2 6 then
              if σ.2 7 ≤ v2_7 then
                some σ
              else
                j129
            else
              some σ)
    else
      if gget σ 12 (f_X4_legNumber (gget σ 14 v4_7) (gget σ 14 (v4_7 + 1))) = (-1) then
        some σ
      else
        self7 (v2_7 + (gget σ 12 (f_X4_legNumber (gget σ 14 v4_7) (gget σ 14 (v4_7 + 1))))) (v3_7 + (gget σ 13 (f_X4_legNumber (gget σ 14 v4_7) (gget σ 14 (v4_7 + 1))))) (v4_7 + 1)) N 0 0 0
abbrev rmX4_judgeOrder : Room := { frames := 2, cells := 0, slots := 0, locals := 45 }
theorem kb_X4_judgeOrder : g_CB yX4_judgeOrder cX4_judgeOrder 6 none 1 := ⟨kc_X4_judgeOrder, kn_X4, by decide +kernel⟩
set_option maxRecDepth 100000 in
set_option maxHeartbeats 4000000 in
theorem c_X4_judgeOrder (l : Launch) (D : va_G) (a : Nat → Nat) (cI : ClassId) (hj : g_Inj 65 a) (N : Nat) (σ : gSt) (x1 : Int32) (out : gSt) (hh : f_X4_judgeOrder N σ x1 = some out) : Met l yX4_judgeOrder (Cond.code yX4_judgeOrder cX4_judgeOrder 6 none :: gW) rmX4_judgeOrder (g_Pc 65 D a (gE a cI σ) [(cI, .int)] [.ref (a 6), .int x1]) (g_Qv 65 D a (gE a cI out)) 0 0 (g_Own 65 a) := by
  refine g_metv (by decide) hj (Nat.le_of_ble_eq_true rfl) ?_
  intro p e s m args below meth c Q ls F hl hI hq
  have hx := F.1.1
  have hb := F.1.2.1
  have hl : lv_has ls 6 [(0, .ref (a 6)), (1, .int x1)] := hl
  have h := hh
  unfold f_X4_judgeOrder at h
  refine lv_iconst (v := 0) hx hb dX4_judgeOrder_0 (by decide) ?_
  refine lv_istore_n (lv' := [(2, .int 0), (0, .ref (a 6)), (1, .int x1)]) hx hb dX4_judgeOrder_1 rfl hl (by decide) rfl (fun ls hl => ?_)
  refine lv_iconst (v := 0) hx hb dX4_judgeOrder_2 (by decide) ?_
  refine lv_istore_n (lv' := [(3, .int 0), (2, .int 0), (0, .ref (a 6)), (1, .int x1)]) hx hb dX4_judgeOrder_3 rfl hl (by decide) rfl (fun ls hl => ?_)
  refine lv_iconst (v := 0) hx hb dX4_judgeOrder_4 (by decide) ?_
  refine lv_istore (lv' := [(4, .int 0), (3, .int 0), (2, .int 0), (0, .ref (a 6)), (1, .int x1)]) hx hb dX4_judgeOrder_5 hl (by decide) rfl (fun ls hl => ?_)
  obtain ⟨lp7, hz7, hs7, h⟩ := gLoop3_in h
  have L7 : ∀ (n : Nat) (v2_7 : Int32) (v3_7 : Int32) (v4_7 : Int32) (H : Heap) (locs : List Loc) (ls : Array Slot), lp7 n v2_7 v3_7 v4_7 = some out → g_S 65 D a (gE a cI σ) s.heap H locs → lv_has ls 6 [(0, .ref (a 6)), (1, .int x1), (2, .int v2_7), (3, .int v3_7), (4, .int v4_7)] → W p l e rmX4_judgeOrder s m args below meth c H locs 0 0 Q (F0 m 7 ls []) := by
    intro n
    induction n with
    | zero => intro v2_7 v3_7 v4_7 H locs ls h; rw [hz7] at h; cases h
    | succ n ih7 =>
      intro v2_7 v3_7 v4_7 H locs ls h hI hl
      rw [hs7] at h
      refine lv_iload hx hb dX4_judgeOrder_7 (lv_at hl 4 rfl) ?_
      refine lv_iconst (v := 1) hx hb dX4_judgeOrder_9 (by decide) ?_
      refine lv_iadd hx hb dX4_judgeOrder_10 ?_
      refine lv_aload_n hx hb dX4_judgeOrder_11 rfl (lv_at hl 0 rfl) ?_
      refine g_get F hI (by decide) gE_6 rfl ku_X4 7 (by decide) kf_X4_98 rfl dX4_judgeOrder_12 ?_
      refine lv_icmp_ge (tgt := 87) hx hb dX4_judgeOrder_15 (by decide) (fun c_15 => ?_) (fun c_15 => ?_)
      · have h := (if_pos c_15).symm.trans h
        refine lv_iload_n hx hb dX4_judgeOrder_87 rfl (lv_at hl 3 rfl) ?_
        refine lv_iload_n hx hb dX4_judgeOrder_88 rfl (lv_at hl 1 rfl) ?_
        refine lv_isub hx hb dX4_judgeOrder_89 ?_
        refine g_mabs F hl.1 km_X4_127 ⟨Nat.le_of_ble_eq_true rfl, Nat.le_of_ble_eq_true rfl⟩ ⟨Nat.zero_le _, Nat.zero_le _⟩ dX4_judgeOrder_90 ?_
        refine lv_istore (lv' := [(4, .int (jabs (v3_7 - x1))), (0, .ref (a 6)), (1, .int x1), (2, .int v2_7), (3, .int v3_7)]) hx hb dX4_judgeOrder_93 hl (by decide) rfl (fun ls hl => ?_)
        refine lv_aload_n hx hb dX4_judgeOrder_95 rfl (lv_at hl 1 rfl) ?_
        refine g_get F hI (by decide) gE_6 rfl ku_X4 9 (by decide) kf_X4_95 rfl dX4_judgeOrder_96 ?_
        refine lv_iconst (v := -1) hx hb dX4_judgeOrder_99 (by decide) ?_
        obtain ⟨j129, hj129, h⟩ := gJoin0_in h
        have J129 : ∀ (H : Heap) (locs : List Loc) (ls : Array Slot), j129  = some out → g_S 65 D a (gE a cI σ) s.heap H locs → lv_has ls 6 [(0, .ref (a 6)), (2, .int v2_7), (4, .int (jabs (v3_7 - x1)))] → W p l e rmX4_judgeOrder s m args below meth c H locs 0 0 Q (F0 m 129 ls []) := by
          intro  H locs ls h hI hl
          rw [hj129] at h
          refine lv_aload_n hx hb dX4_judgeOrder_129 rfl (lv_at hl 0 rfl) ?_
          refine lv_iload hx hb dX4_judgeOrder_130 (lv_at hl 2 rfl) ?_
          refine lv_iload_n hx hb dX4_judgeOrder_132 rfl (lv_at hl 1 rfl) ?_
          obtain ⟨s_133, e_133, h⟩ := gBind_in h
          refine g_callVv (E' := gE a cI s_133) (k0 := 6) (As := [.int (jabs (v3_7 - x1)), .int v2_7]) (rest := []) F hI (c_X4_keepOrder l D a cI F.2.2 N σ (jabs (v3_7 - x1)) v2_7 s_133 e_133) kb_X4_keepOrder ki_X4_keepOrder ks_X4_keepOrder km_X4_133 ⟨Nat.le_of_ble_eq_true rfl, Nat.le_of_ble_eq_true rfl, rfl, rfl⟩ (by decide) gE_6 rfl hl.1 rfl (Nat.le_of_ble_eq_true rfl) ⟨Nat.zero_le _, Nat.zero_le _⟩ dX4_judgeOrder_133 (fun H locs hI => ?_)
          have h := Option.some.inj h
          subst h
          exact hq _ _ _ _ hI dX4_judgeOrder_136
        refine lv_icmp_eq (tgt := 129) hx hb dX4_judgeOrder_100 (by decide) (fun c_100 => ?_) (fun c_100 => ?_)
        · have h := (if_pos c_100).symm.trans h
          exact J129 _ _ _ h hI (lv_sub hl [1, 3, 0] rfl)
        · have h := (if_neg c_100).symm.trans h
          refine lv_iload hx hb dX4_judgeOrder_103 (lv_at hl 0 rfl) ?_
          refine lv_aload_n hx hb dX4_judgeOrder_105 rfl (lv_at hl 1 rfl) ?_
          refine g_get F hI (by decide) gE_6 rfl ku_X4 8 (by decide) kf_X4_130 rfl dX4_judgeOrder_106 ?_
          refine lv_icmp_lt (tgt := 129) hx hb dX4_judgeOrder_109 (by decide) (fun c_109 => ?_) (fun c_109 => ?_)
          · have h := (if_pos c_109).symm.trans h
            exact J129 _ _ _ h hI (lv_sub hl [1, 3, 0] rfl)
          · have h := (if_neg c_109).symm.trans h
            refine lv_iload hx hb dX4_judgeOrder_112 (lv_at hl 0 rfl) ?_
            refine lv_aload_n hx hb dX4_judgeOrder_114 rfl (lv_at hl 1 rfl) ?_
            refine g_get F hI (by decide) gE_6 rfl ku_X4 8 (by decide) kf_X4_130 rfl dX4_judgeOrder_115 ?_
            refine lv_icmp_ne (tgt := 136) hx hb dX4_judgeOrder_118 (by decide) (fun c_118 => ?_) (fun c_118 => ?_)
            · have h := (if_neg c_118).symm.trans h
              have h := Option.some.inj h
              subst h
              exact hq _ _ _ _ hI dX4_judgeOrder_136
            · have h := (if_pos c_118).symm.trans h
              refine lv_iload_n hx hb dX4_judgeOrder_121 rfl (lv_at hl 3 rfl) ?_
              refine lv_aload_n hx hb dX4_judgeOrder_122 rfl (lv_at hl 1 rfl) ?_
              refine g_get F hI (by decide) gE_6 rfl ku_X4 9 (by decide) kf_X4_95 rfl dX4_judgeOrder_123 ?_
              refine lv_icmp_ge (tgt := 136) hx hb dX4_judgeOrder_126 (by decide) (fun c_126 => ?_) (fun c_126 => ?_)
              · have h := (if_pos c_126).symm.trans h
                have h := Option.some.inj h
                subst h
                exact hq _ _ _ _ hI dX4_judgeOrder_136
              · have h := (if_neg c_126).symm.trans h
                exact J129 _ _ _ h hI (lv_sub hl [1, 3, 0] rfl)
      · have h := (if_neg c_15).symm.trans h
        refine lv_aload_n hx hb dX4_judgeOrder_18 rfl (lv_at hl 0 rfl) ?_
        refine g_get F hI (by decide) gE_6 rfl ku_X4 5 (by decide) kf_X4_23 rfl dX4_judgeOrder_19 ?_
        refine lv_iload hx hb dX4_judgeOrder_22 (lv_at hl 4 rfl) ?_
        refine g_rget F hI 14 (by decide) km_X4_108 ⟨Nat.le_of_ble_eq_true rfl, Nat.le_of_ble_eq_true rfl⟩ hl.1 (Nat.le_of_ble_eq_true rfl) ⟨Nat.zero_le _, Nat.zero_le _⟩ dX4_judgeOrder_24 (fun H locs hI => ?_)
        refine lv_aload_n hx hb dX4_judgeOrder_27 rfl (lv_at hl 0 rfl) ?_
        refine g_get F hI (by decide) gE_6 rfl ku_X4 5 (by decide) kf_X4_23 rfl dX4_judgeOrder_28 ?_
        refine lv_iload hx hb dX4_judgeOrder_31 (lv_at hl 4 rfl) ?_
        refine lv_iconst (v := 1) hx hb dX4_judgeOrder_33 (by decide) ?_
        refine lv_iadd hx hb dX4_judgeOrder_34 ?_
        refine g_rget F hI 14 (by decide) km_X4_108 ⟨Nat.le_of_ble_eq_true rfl, Nat.le_of_ble_eq_true rfl⟩ hl.1 (Nat.le_of_ble_eq_true rfl) ⟨Nat.zero_le _, Nat.zero_le _⟩ dX4_judgeOrder_35 (fun H locs hI => ?_)
        refine g_callSi (E' := gE a cI σ) (As := [.int (gget σ 14 v4_7), .int (gget σ 14 (v4_7 + 1))]) (rest := []) F hI (c_X4_legNumber l D a cI F.2.2 σ (gget σ 14 v4_7) (gget σ 14 (v4_7 + 1))) kb_X4_legNumber kt_X4_legNumber km_X4_124 ⟨Nat.le_of_ble_eq_true rfl, Nat.le_of_ble_eq_true rfl, rfl, rfl⟩ hl.1 rfl (Nat.le_of_ble_eq_true rfl) ⟨Nat.zero_le _, Nat.zero_le _⟩ dX4_judgeOrder_38 (fun H locs hI => ?_)
        refine lv_istore (lv' := [(5, .int (f_X4_legNumber (gget σ 14 v4_7) (gget σ 14 (v4_7 + 1)))), (0, .ref (a 6)), (1, .int x1), (2, .int v2_7), (3, .int v3_7), (4, .int v4_7)]) hx hb dX4_judgeOrder_41 hl (by decide) rfl (fun ls hl => ?_)
        refine lv_aload_n hx hb dX4_judgeOrder_43 rfl (lv_at hl 1 rfl) ?_
        refine g_get F hI (by decide) gE_6 rfl ku_X4 3 (by decide) kf_X4_14 rfl dX4_judgeOrder_44 ?_
        refine lv_iload hx hb dX4_judgeOrder_47 (lv_at hl 0 rfl) ?_
        refine g_rget F hI 12 (by decide) km_X4_108 ⟨Nat.le_of_ble_eq_true rfl, Nat.le_of_ble_eq_true rfl⟩ hl.1 (Nat.le_of_ble_eq_true rfl) ⟨Nat.zero_le _, Nat.zero_le _⟩ dX4_judgeOrder_49 (fun H locs hI => ?_)
        refine lv_iconst (v := -1) hx hb dX4_judgeOrder_52 (by decide) ?_
        refine lv_icmp_ne (tgt := 57) hx hb dX4_judgeOrder_53 (by decide) (fun c_53 => ?_) (fun c_53 => ?_)
        · have h := (if_neg c_53).symm.trans h
          refine lv_iload_n hx hb dX4_judgeOrder_57 rfl (lv_at hl 3 rfl) ?_
          refine lv_aload_n hx hb dX4_judgeOrder_58 rfl (lv_at hl 1 rfl) ?_
          refine g_get F hI (by decide) gE_6 rfl ku_X4 3 (by decide) kf_X4_14 rfl dX4_judgeOrder_59 ?_
          refine lv_iload hx hb dX4_judgeOrder_62 (lv_at hl 0 rfl) ?_
          refine g_rget F hI 12 (by decide) km_X4_108 ⟨Nat.le_of_ble_eq_true rfl, Nat.le_of_ble_eq_true rfl⟩ hl.1 (Nat.le_of_ble_eq_true rfl) ⟨Nat.zero_le _, Nat.zero_le _⟩ dX4_judgeOrder_64 (fun H locs hI => ?_)
          refine lv_iadd hx hb dX4_judgeOrder_67 ?_
          refine lv_istore_n (lv' := [(2, .int (v2_7 + (gget σ 12 (f_X4_legNumber (gget σ 14 v4_7) (gget σ 14 (v4_7 + 1)))))), (5, .int (f_X4_legNumber (gget σ 14 v4_7) (gget σ 14 (v4_7 + 1)))), (0, .ref (a 6)), (1, .int x1), (3, .int v3_7), (4, .int v4_7)]) hx hb dX4_judgeOrder_68 rfl hl (by decide) rfl (fun ls hl => ?_)
          refine lv_iload_n hx hb dX4_judgeOrder_69 rfl (lv_at hl 4 rfl) ?_
          refine lv_aload_n hx hb dX4_judgeOrder_70 rfl (lv_at hl 2 rfl) ?_
          refine g_get F hI (by decide) gE_6 rfl ku_X4 4 (by decide) kf_X4_20 rfl dX4_judgeOrder_71 ?_
          refine lv_iload hx hb dX4_judgeOrder_74 (lv_at hl 1 rfl) ?_
          refine g_rget F hI 13 (by decide) km_X4_108 ⟨Nat.le_of_ble_eq_true rfl, Nat.le_of_ble_eq_true rfl⟩ hl.1 (Nat.le_of_ble_eq_true rfl) ⟨Nat.zero_le _, Nat.zero_le _⟩ dX4_judgeOrder_76 (fun H locs hI => ?_)
          refine lv_iadd hx hb dX4_judgeOrder_79 ?_
          refine lv_istore_n (lv' := [(3, .int (v3_7 + (gget σ 13 (f_X4_legNumber (gget σ 14 v4_7) (gget σ 14 (v4_7 + 1)))))), (2, .int (v2_7 + (gget σ 12 (f_X4_legNumber (gget σ 14 v4_7) (gget σ 14 (v4_7 + 1)))))), (5, .int (f_X4_legNumber (gget σ 14 v4_7) (gget σ 14 (v4_7 + 1)))), (0, .ref (a 6)), (1, .int x1), (4, .int v4_7)]) hx hb dX4_judgeOrder_80 rfl hl (by decide) rfl (fun ls hl => ?_)
          refine lv_iinc (v := v4_7 + 1) (lv' := [(4, .int (v4_7 + 1)), (3, .int (v3_7 + (gget σ 13 (f_X4_legNumber (gget σ 14 v4_7) (gget σ 14 (v4_7 + 1)))))), (2, .int (v2_7 + (gget σ 12 (f_X4_legNumber (gget σ 14 v4_7) (gget σ 14 (v4_7 + 1)))))), (5, .int (f_X4_legNumber (gget σ 14 v4_7) (gget σ 14 (v4_7 + 1)))), (0, .ref (a 6)), (1, .int x1)]) hx hb dX4_judgeOrder_81 hl (k := 5) rfl rfl (by decide) rfl (fun ls hl => ?_)
          refine lv_goto (tgt := 7) hx hb dX4_judgeOrder_84 (by decide) ?_
          exact ih7 _ _ _ _ _ _ h hI (lv_sub hl [4, 5, 2, 1, 0] rfl)
        · have h := (if_pos c_53).symm.trans h
          have h := Option.some.inj h
          subst h
          exact hq _ _ _ _ hI dX4_judgeOrder_56
  exact L7 _ _ _ _ _ _ _ h hI (lv_sub hl [3, 4, 2, 1, 0] rfl)
/-- Spurline$Planner.goToNextOrder()Z -/
def f_X4_goToNextOrder (N : Nat) (σ : gSt) : Option (Int32 × gSt) :=
  gLoop1 (fun self7 (v1_7 : Int32) =>
    gJoin0 (
        if 1 ≤ v1_7 then
          gLoop1 (fun self53 (v2_53 : Int32) =>
            gJoin0 (
                gLoop3 (fun self101 (v3_101 : Int32) (v4_101 : Int32) (s_101 : gSt) =>
                  if v3_101 ≤ v4_101 then
                    some (1, s_101)
                  else
                    self101 (v3_101 + (-1)) (v4_101 + 1) (f_X4_swap s_101 v4_101 v3_101)) N (((f_X4_swap σ v1_7 v2_53).2 5) - 2) (v1_7 + 1) (f_X4_swap σ v1_7 v2_53)) (fun j83 =>
              if v2_53 ≤ v1_7 then
                j83
              else
                if gget σ 14 v1_7 ≤ gget σ 14 v2_53 then
                  j83
                else
                  self53 (v2_53 + (-1)))) N ((σ.2 5) - 2)
        else
          some (0, σ)) (fun j39 =>
      if v1_7 < 1 then
        j39
      else
        if gget σ 14 v1_7 ≤ gget σ 14 (v1_7 + 1) then
          j39
        else
          self7 (v1_7 + (-1)))) N ((σ.2 5) - 3)
abbrev rmX4_goToNextOrder : Room := { frames := 2, cells := 0, slots := 0, locals := 45 }
theorem kb_X4_goToNextOrder : g_CB yX4_goToNextOrder cX4_goToNextOrder 5 (some .boolean) 0 := ⟨kc_X4_goToNextOrder, kn_X4, by decide +kernel⟩
set_option maxRecDepth 100000 in
set_option maxHeartbeats 4000000 in
theorem c_X4_goToNextOrder (l : Launch) (D : va_G) (a : Nat → Nat) (cI : ClassId) (hj : g_Inj 65 a) (N : Nat) (σ : gSt) (out : Int32 × gSt) (hh : f_X4_goToNextOrder N σ = some out) : Met l yX4_goToNextOrder (Cond.code yX4_goToNextOrder cX4_goToNextOrder 5 (some .boolean) :: gW) rmX4_goToNextOrder (g_Pc 65 D a (gE a cI σ) [(cI, .int)] [.ref (a 6)]) (g_Qi 65 D a (gE a cI out.2) out.1) 0 0 (g_Own 65 a) := by
  refine g_metz (by decide) hj (Nat.le_of_ble_eq_true rfl) ?_
  intro p e s m args below meth c Q ls F hl hI hq
  have hx := F.1.1
  have hb := F.1.2.1
  have hl : lv_has ls 5 [(0, .ref (a 6))] := hl
  have h := hh
  unfold f_X4_goToNextOrder at h
  refine lv_aload_n hx hb dX4_goToNextOrder_0 rfl (lv_at hl 0 rfl) ?_
  refine g_get F hI (by decide) gE_6 rfl ku_X4 7 (by decide) kf_X4_98 rfl dX4_goToNextOrder_1 ?_
  refine lv_iconst (v := 3) hx hb dX4_goToNextOrder_4 (by decide) ?_
  refine lv_isub hx hb dX4_goToNextOrder_5 ?_
  refine lv_istore_n (lv' := [(1, .int ((σ.2 5) - 3)), (0, .ref (a 6))]) hx hb dX4_goToNextOrder_6 rfl hl (by decide) rfl (fun ls hl => ?_)
  obtain ⟨lp7, hz7, hs7, h⟩ := gLoop1_in h
  have L7 : ∀ (n : Nat) (v1_7 : Int32) (H : Heap) (locs : List Loc) (ls : Array Slot), lp7 n v1_7 = some out → g_S 65 D a (gE a cI σ) s.heap H locs → lv_has ls 5 [(0, .ref (a 6)), (1, .int v1_7)] → W p l e rmX4_goToNextOrder s m args below meth c H locs 0 0 Q (F0 m 7 ls []) := by
    intro n
    induction n with
    | zero => intro v1_7 H locs ls h; rw [hz7] at h; cases h
    | succ n ih7 =>
      intro v1_7 H locs ls h hI hl
      rw [hs7] at h
      refine lv_iload_n hx hb dX4_goToNextOrder_7 rfl (lv_at hl 1 rfl) ?_
      refine lv_iconst (v := 1) hx hb dX4_goToNextOrder_8 (by decide) ?_
      obtain ⟨j39, hj39, h⟩ := gJoin0_in h
      have J39 : ∀ (H : Heap) (locs : List Loc) (ls : Array Slot), j39  = some out → g_S 65 D a (gE a cI σ) s.heap H locs → lv_has ls 5 [(0, .ref (a 6)), (1, .int v1_7)] → W p l e rmX4_goToNextOrder s m args below meth c H locs 0 0 Q (F0 m 39 ls []) := by
        intro  H locs ls h hI hl
        rw [hj39] at h
        refine lv_iload_n hx hb dX4_goToNextOrder_39 rfl (lv_at hl 1 rfl) ?_
        refine lv_iconst (v := 1) hx hb dX4_goToNextOrder_40 (by decide) ?_
        refine lv_icmp_ge (tgt := 46) hx hb dX4_goToNextOrder_41 (by decide) (fun c_41 => ?_) (fun c_41 => ?_)
        · have h := (if_pos c_41).symm.trans h
          refine lv_aload_n hx hb dX4_goToNextOrder_46 rfl (lv_at hl 0 rfl) ?_
          refine g_get F hI (by decide) gE_6 rfl ku_X4 7 (by decide) kf_X4_98 rfl dX4_goToNextOrder_47 ?_
          refine lv_iconst (v := 2) hx hb dX4_goToNextOrder_50 (by decide) ?_
          refine lv_isub hx hb dX4_goToNextOrder_51 ?_
          refine lv_istore_n (lv' := [(2, .int ((σ.2 5) - 2)), (0, .ref (a 6)), (1, .int v1_7)]) hx hb dX4_goToNextOrder_52 rfl hl (by decide) rfl (fun ls hl => ?_)
          obtain ⟨lp53, hz53, hs53, h⟩ := gLoop1_in h
          have L53 : ∀ (n : Nat) (v2_53 : Int32) (H : Heap) (locs : List Loc) (ls : Array Slot), lp53 n v2_53 = some out → g_S 65 D a (gE a cI σ) s.heap H locs → lv_has ls 5 [(0, .ref (a 6)), (1, .int v1_7), (2, .int v2_53)] → W p l e rmX4_goToNextOrder s m args below meth c H locs 0 0 Q (F0 m 53 ls []) := by
            intro n
            induction n with
            | zero => intro v2_53 H locs ls h; rw [hz53] at h; cases h
            | succ n ih53 =>
              intro v2_53 H locs ls h hI hl
              rw [hs53] at h
              refine lv_iload_n hx hb dX4_goToNextOrder_53 rfl (lv_at hl 2 rfl) ?_
              refine lv_iload_n hx hb dX4_goToNextOrder_54 rfl (lv_at hl 1 rfl) ?_
              obtain ⟨j83, hj83, h⟩ := gJoin0_in h
              have J83 : ∀ (H : Heap) (locs : List Loc) (ls : Array Slot), j83  = some out → g_S 65 D a (gE a cI σ) s.heap H locs → lv_has ls 5 [(0, .ref (a 6)), (1, .int v1_7), (2, .int v2_53)] → W p l e rmX4_goToNextOrder s m args below meth c H locs 0 0 Q (F0 m 83 ls []) := by
                intro  H locs ls h hI hl
                rw [hj83] at h
                refine lv_aload_n hx hb dX4_goToNextOrder_83 rfl (lv_at hl 0 rfl) ?_
                refine lv_iload_n hx hb dX4_goToNextOrder_84 rfl (lv_at hl 1 rfl) ?_
                refine lv_iload_n hx hb dX4_goToNextOrder_85 rfl (lv_at hl 2 rfl) ?_
                refine g_callVv (E' := gE a cI (f_X4_swap σ v1_7 v2_53)) (k0 := 6) (As := [.int v1_7, .int v2_53]) (rest := []) F hI (c_X4_swap l D a cI F.2.2 σ v1_7 v2_53) kb_X4_swap ki_X4_swap ks_X4_swap km_X4_121 ⟨Nat.le_of_ble_eq_true rfl, Nat.le_of_ble_eq_true rfl, rfl, rfl⟩ (by decide) gE_6 rfl hl.1 rfl (Nat.le_of_ble_eq_true rfl) ⟨Nat.zero_le _, Nat.zero_le _⟩ dX4_goToNextOrder_86 (fun H locs hI => ?_)
                refine lv_aload_n hx hb dX4_goToNextOrder_89 rfl (lv_at hl 0 rfl) ?_
                refine g_get F hI (by decide) gE_6 rfl ku_X4 7 (by decide) kf_X4_98 rfl dX4_goToNextOrder_90 ?_
                refine lv_iconst (v := 2) hx hb dX4_goToNextOrder_93 (by decide) ?_
                refine lv_isub hx hb dX4_goToNextOrder_94 ?_
                refine lv_istore_n (lv' := [(3, .int (((f_X4_swap σ v1_7 v2_53).2 5) - 2)), (0, .ref (a 6)), (1, .int v1_7), (2, .int v2_53)]) hx hb dX4_goToNextOrder_95 rfl hl (by decide) rfl (fun ls hl => ?_)
                refine lv_iload_n hx hb dX4_goToNextOrder_96 rfl (lv_at hl 2 rfl) ?_
                refine lv_iconst (v := 1) hx hb dX4_goToNextOrder_97 (by decide) ?_
                refine lv_iadd hx hb dX4_goToNextOrder_98 ?_
                refine lv_istore (lv' := [(4, .int (v1_7 + 1)), (3, .int (((f_X4_swap σ v1_7 v2_53).2 5) - 2)), (0, .ref (a 6)), (1, .int v1_7), (2, .int v2_53)]) hx hb dX4_goToNextOrder_99 hl (by decide) rfl (fun ls hl => ?_)
                obtain ⟨lp101, hz101, hs101, h⟩ := gLoop3_in h
                have L101 : ∀ (n : Nat) (v3_101 : Int32) (v4_101 : Int32) (s_101 : gSt) (H : Heap) (locs : List Loc) (ls : Array Slot), lp101 n v3_101 v4_101 s_101 = some out → g_S 65 D a (gE a cI s_101) s.heap H locs → lv_has ls 5 [(0, .ref (a 6)), (3, .int v3_101), (4, .int v4_101)] → W p l e rmX4_goToNextOrder s m args below meth c H locs 0 0 Q (F0 m 101 ls []) := by
                  intro n
                  induction n with
                  | zero => intro v3_101 v4_101 s_101 H locs ls h; rw [hz101] at h; cases h
                  | succ n ih101 =>
                    intro v3_101 v4_101 s_101 H locs ls h hI hl
                    rw [hs101] at h
                    refine lv_iload hx hb dX4_goToNextOrder_101 (lv_at hl 2 rfl) ?_
                    refine lv_iload_n hx hb dX4_goToNextOrder_103 rfl (lv_at hl 1 rfl) ?_
                    refine lv_icmp_ge (tgt := 123) hx hb dX4_goToNextOrder_104 (by decide) (fun c_104 => ?_) (fun c_104 => ?_)
                    · have h := (if_pos c_104).symm.trans h
                      refine lv_iconst (v := 1) hx hb dX4_goToNextOrder_123 (by decide) ?_
                      have h := Option.some.inj h
                      subst h
                      exact hq _ _ _ _ _ (show (1 : Int32) &&& 1 = 1 from by decide) hI dX4_goToNextOrder_124
                    · have h := (if_neg c_104).symm.trans h
                      refine lv_aload_n hx hb dX4_goToNextOrder_107 rfl (lv_at hl 0 rfl) ?_
                      refine lv_iload hx hb dX4_goToNextOrder_108 (lv_at hl 2 rfl) ?_
                      refine lv_iload_n hx hb dX4_goToNextOrder_110 rfl (lv_at hl 1 rfl) ?_
                      refine g_callVv (E' := gE a cI (f_X4_swap s_101 v4_101 v3_101)) (k0 := 6) (As := [.int v4_101, .int v3_101]) (rest := []) F hI (c_X4_swap l D a cI F.2.2 s_101 v4_101 v3_101) kb_X4_swap ki_X4_swap ks_X4_swap km_X4_121 ⟨Nat.le_of_ble_eq_true rfl, Nat.le_of_ble_eq_true rfl, rfl, rfl⟩ (by decide) gE_6 rfl hl.1 rfl (Nat.le_of_ble_eq_true rfl) ⟨Nat.zero_le _, Nat.zero_le _⟩ dX4_goToNextOrder_111 (fun H locs hI => ?_)
                      refine lv_iinc (v := v3_101 + (-1)) (lv' := [(3, .int (v3_101 + (-1))), (0, .ref (a 6)), (4, .int v4_101)]) hx hb dX4_goToNextOrder_114 hl (k := 1) rfl rfl (by decide) rfl (fun ls hl => ?_)
                      refine lv_iinc (v := v4_101 + 1) (lv' := [(4, .int (v4_101 + 1)), (3, .int (v3_101 + (-1))), (0, .ref (a 6))]) hx hb dX4_goToNextOrder_117 hl (k := 2) rfl rfl (by decide) rfl (fun ls hl => ?_)
                      refine lv_goto (tgt := 101) hx hb dX4_goToNextOrder_120 (by decide) ?_
                      exact ih101 _ _ _ _ _ _ h hI (lv_sub hl [2, 1, 0] rfl)
                exact L101 _ _ _ _ _ _ _ h hI (lv_sub hl [2, 1, 0] rfl)
              refine lv_icmp_le (tgt := 83) hx hb dX4_goToNextOrder_55 (by decide) (fun c_55 => ?_) (fun c_55 => ?_)
              · have h := (if_pos c_55).symm.trans h
                exact J83 _ _ _ h hI (lv_sub hl [0, 1, 2] rfl)
              · have h := (if_neg c_55).symm.trans h
                refine lv_aload_n hx hb dX4_goToNextOrder_58 rfl (lv_at hl 0 rfl) ?_
                refine g_get F hI (by decide) gE_6 rfl ku_X4 5 (by decide) kf_X4_23 rfl dX4_goToNextOrder_59 ?_
                refine lv_iload_n hx hb dX4_goToNextOrder_62 rfl (lv_at hl 2 rfl) ?_
                refine g_rget F hI 14 (by decide) km_X4_108 ⟨Nat.le_of_ble_eq_true rfl, Nat.le_of_ble_eq_true rfl⟩ hl.1 (Nat.le_of_ble_eq_true rfl) ⟨Nat.zero_le _, Nat.zero_le _⟩ dX4_goToNextOrder_63 (fun H locs hI => ?_)
                refine lv_aload_n hx hb dX4_goToNextOrder_66 rfl (lv_at hl 0 rfl) ?_
                refine g_get F hI (by decide) gE_6 rfl ku_X4 5 (by decide) kf_X4_23 rfl dX4_goToNextOrder_67 ?_
                refine lv_iload_n hx hb dX4_goToNextOrder_70 rfl (lv_at hl 1 rfl) ?_
                refine g_rget F hI 14 (by decide) km_X4_108 ⟨Nat.le_of_ble_eq_true rfl, Nat.le_of_ble_eq_true rfl⟩ hl.1 (Nat.le_of_ble_eq_true rfl) ⟨Nat.zero_le _, Nat.zero_le _⟩ dX4_goToNextOrder_71 (fun H locs hI => ?_)
                refine lv_icmp_ge (tgt := 83) hx hb dX4_goToNextOrder_74 (by decide) (fun c_74 => ?_) (fun c_74 => ?_)
                · have h := (if_pos c_74).symm.trans h
                  exact J83 _ _ _ h hI (lv_sub hl [0, 1, 2] rfl)
                · have h := (if_neg c_74).symm.trans h
                  refine lv_iinc (v := v2_53 + (-1)) (lv' := [(2, .int (v2_53 + (-1))), (0, .ref (a 6)), (1, .int v1_7)]) hx hb dX4_goToNextOrder_77 hl (k := 2) rfl rfl (by decide) rfl (fun ls hl => ?_)
                  refine lv_goto (tgt := 53) hx hb dX4_goToNextOrder_80 (by decide) ?_
                  exact ih53 _ _ _ _ h hI (lv_sub hl [1, 2, 0] rfl)
          exact L53 _ _ _ _ _ h hI (lv_sub hl [1, 2, 0] rfl)
        · have h := (if_neg c_41).symm.trans h
          refine lv_iconst (v := 0) hx hb dX4_goToNextOrder_44 (by decide) ?_
          have h := Option.some.inj h
          subst h
          exact hq _ _ _ _ _ (show (0 : Int32) &&& 1 = 0 from by decide) hI dX4_goToNextOrder_45
      refine lv_icmp_lt (tgt := 39) hx hb dX4_goToNextOrder_9 (by decide) (fun c_9 => ?_) (fun c_9 => ?_)
      · have h := (if_pos c_9).symm.trans h
        exact J39 _ _ _ h hI (lv_sub hl [0, 1] rfl)
      · have h := (if_neg c_9).symm.trans h
        refine lv_aload_n hx hb dX4_goToNextOrder_12 rfl (lv_at hl 0 rfl) ?_
        refine g_get F hI (by decide) gE_6 rfl ku_X4 5 (by decide) kf_X4_23 rfl dX4_goToNextOrder_13 ?_
        refine lv_iload_n hx hb dX4_goToNextOrder_16 rfl (lv_at hl 1 rfl) ?_
        refine g_rget F hI 14 (by decide) km_X4_108 ⟨Nat.le_of_ble_eq_true rfl, Nat.le_of_ble_eq_true rfl⟩ hl.1 (Nat.le_of_ble_eq_true rfl) ⟨Nat.zero_le _, Nat.zero_le _⟩ dX4_goToNextOrder_17 (fun H locs hI => ?_)
        refine lv_aload_n hx hb dX4_goToNextOrder_20 rfl (lv_at hl 0 rfl) ?_
        refine g_get F hI (by decide) gE_6 rfl ku_X4 5 (by decide) kf_X4_23 rfl dX4_goToNextOrder_21 ?_
        refine lv_iload_n hx hb dX4_goToNextOrder_24 rfl (lv_at hl 1 rfl) ?_
        refine lv_iconst (v := 1) hx hb dX4_goToNextOrder_25 (by decide) ?_
        refine lv_iadd hx hb dX4_goToNextOrder_26 ?_
        refine g_rget F hI 14 (by decide) km_X4_108 ⟨Nat.le_of_ble_eq_true rfl, Nat.le_of_ble_eq_true rfl⟩ hl.1 (Nat.le_of_ble_eq_true rfl) ⟨Nat.zero_le _, Nat.zero_le _⟩ dX4_goToNextOrder_27 (fun H locs hI => ?_)
        refine lv_icmp_le (tgt := 39) hx hb dX4_goToNextOrder_30 (by decide) (fun c_30 => ?_) (fun c_30 => ?_)
        · have h := (if_pos c_30).symm.trans h
          exact J39 _ _ _ h hI (lv_sub hl [0, 1] rfl)
        · have h := (if_neg c_30).symm.trans h
          refine lv_iinc (v := v1_7 + (-1)) (lv' := [(1, .int (v1_7 + (-1))), (0, .ref (a 6))]) hx hb dX4_goToNextOrder_33 hl (k := 1) rfl rfl (by decide) rfl (fun ls hl => ?_)
          refine lv_goto (tgt := 7) hx hb dX4_goToNextOrder_36 (by decide) ?_
          exact ih7 _ _ _ _ h hI (lv_sub hl [1, 0] rfl)
  exact L7 _ _ _ _ _ h hI (lv_sub hl [1, 0] rfl)
/-- Spurline$Planner.reorder(II)V -/
def f_X4_reorder (N : Nat) (σ : gSt) (x1 x2 : Int32) : Option gSt :=
  (f_X4_takeOrder N σ x1).bind (fun (s_2 : gSt) =>
  (f_X4_sortBetweenEnds N s_2).bind (fun (s_6 : gSt) =>
  (f_X4_measureLegs N s_6).bind (fun (s_10 : gSt) =>
  gJoin1 (fun (w0_31 : Int32) =>
      gLoop3 (fun self35 (v3_35 : Int32) (v4_35 : Int32) (s_35 : gSt) =>
        gJoin0 (
            gLoop2 (fun self65 (v4_65 : Int32) (s_65 : gSt) =>
              if s_65.2 5 ≤ v4_65 then
                some s_65
              else
                if s_65.2 7 = (-1) then
                  some s_65
                else
                  self65 (v4_65 + 1) (f_X2_replaceControl s_65 x1 v4_65 (gget s_65 15 v4_65))) N 0 s_35) (fun j62 =>
          if 24 ≤ v4_35 then
            j62
          else
            if v3_35 = 0 then
              j62
            else
              (f_X4_judgeOrder N s_35 x2).bind (fun (s_48 : gSt) =>
              (f_X4_goToNextOrder N s_48).bind (fun (q_52 : Int32 × gSt) =>
              self35 q_52.1 (v4_35 + 1) q_52.2)))) N w0_31 0 (g_sf s_10 7 (-1))) (fun j31 =>
    if (g_sf s_10 7 (-1)).2 5 < 2 then
      j31 0
    else
      j31 1))))
abbrev rmX4_reorder : Room := { frames := 5, cells := 0, slots := 0, locals := 118 }
theorem kb_X4_reorder : g_CB yX4_reorder cX4_reorder 5 none 2 := ⟨kc_X4_reorder, kn_X4, by decide +kernel⟩
set_option maxRecDepth 100000 in
set_option maxHeartbeats 4000000 in
theorem c_X4_reorder (l : Launch) (D : va_G) (a : Nat → Nat) (cI : ClassId) (hj : g_Inj 65 a) (N : Nat) (σ : gSt) (x1 x2 : Int32) (out : gSt) (hh : f_X4_reorder N σ x1 x2 = some out) : Met l yX4_reorder (Cond.code yX4_reorder cX4_reorder 5 none :: gW) rmX4_reorder (g_Pc 65 D a (gE a cI σ) [(cI, .int)] [.ref (a 6), .int x1, .int x2]) (g_Qv 65 D a (gE a cI out)) 0 0 (g_Own 65 a) := by
  refine g_metv (by decide) hj (Nat.le_of_ble_eq_true rfl) ?_
  intro p e s m args below meth c Q ls F hl hI hq
  have hx := F.1.1
  have hb := F.1.2.1
  have hl : lv_has ls 5 [(0, .ref (a 6)), (1, .int x1), (2, .int x2)] := hl
  have h := hh
  unfold f_X4_reorder at h
  refine lv_aload_n hx hb dX4_reorder_0 rfl (lv_at hl 0 rfl) ?_
  refine lv_iload_n hx hb dX4_reorder_1 rfl (lv_at hl 1 rfl) ?_
  obtain ⟨s_2, e_2, h⟩ := gBind_in h
  refine g_callVv (E' := gE a cI s_2) (k0 := 6) (As := [.int x1]) (rest := []) F hI (c_X4_takeOrder l D a cI F.2.2 N σ x1 s_2 e_2) kb_X4_takeOrder ki_X4_takeOrder ks_X4_takeOrder km_X4_86 ⟨Nat.le_of_ble_eq_true rfl, Nat.le_of_ble_eq_true rfl, rfl, rfl⟩ (by decide) gE_6 rfl hl.1 rfl (Nat.le_of_ble_eq_true rfl) ⟨Nat.zero_le _, Nat.zero_le _⟩ dX4_reorder_2 (fun H locs hI => ?_)
  refine lv_aload_n hx hb dX4_reorder_5 rfl (lv_at hl 0 rfl) ?_
  obtain ⟨s_6, e_6, h⟩ := gBind_in h
  refine g_callVv (E' := gE a cI s_6) (k0 := 6) (As := []) (rest := []) F hI (c_X4_sortBetweenEnds l D a cI F.2.2 N s_2 s_6 e_6) kb_X4_sortBetweenEnds ki_X4_sortBetweenEnds ks_X4_sortBetweenEnds km_X4_89 ⟨Nat.le_of_ble_eq_true rfl, Nat.le_of_ble_eq_true rfl, rfl, rfl⟩ (by decide) gE_6 rfl hl.1 rfl (Nat.le_of_ble_eq_true rfl) ⟨Nat.zero_le _, Nat.zero_le _⟩ dX4_reorder_6 (fun H locs hI => ?_)
  refine lv_aload_n hx hb dX4_reorder_9 rfl (lv_at hl 0 rfl) ?_
  obtain ⟨s_10, e_10, h⟩ := gBind_in h
  refine g_callVv (E' := gE a cI s_10) (k0 := 6) (As := []) (rest := []) F hI (c_X4_measureLegs l D a cI F.2.2 N s_6 s_10 e_10) kb_X4_measureLegs ki_X4_measureLegs ks_X4_measureLegs km_X4_92 ⟨Nat.le_of_ble_eq_true rfl, Nat.le_of_ble_eq_true rfl, rfl, rfl⟩ (by decide) gE_6 rfl hl.1 rfl (Nat.le_of_ble_eq_true rfl) ⟨Nat.zero_le _, Nat.zero_le _⟩ dX4_reorder_10 (fun H locs hI => ?_)
  refine lv_aload_n hx hb dX4_reorder_13 rfl (lv_at hl 0 rfl) ?_
  refine lv_iconst (v := -1) hx hb dX4_reorder_14 (by decide) ?_
  refine g_put (E' := gE a cI (g_sf s_10 7 (-1))) F hI (by decide) gE_6 rfl ku_X4 tyX4_ok nmX4 9 (by decide) kf_X4_95 rfl rfl rfl rfl (Nat.le_of_ble_eq_true rfl) rfl gE_sf_7 dX4_reorder_15 (fun H locs hI => ?_)
  refine lv_aload_n hx hb dX4_reorder_18 rfl (lv_at hl 0 rfl) ?_
  refine g_get F hI (by decide) gE_6 rfl ku_X4 7 (by decide) kf_X4_98 rfl dX4_reorder_19 ?_
  refine lv_iconst (v := 2) hx hb dX4_reorder_22 (by decide) ?_
  obtain ⟨j31, hj31, h⟩ := gJoin1_in h
  have J31 : ∀ (w0_31 : Int32) (H : Heap) (locs : List Loc) (ls : Array Slot), j31 w0_31 = some out → g_S 65 D a (gE a cI (g_sf s_10 7 (-1))) s.heap H locs → lv_has ls 5 [(0, .ref (a 6)), (1, .int x1), (2, .int x2)] → W p l e rmX4_reorder s m args below meth c H locs 0 0 Q (F0 m 31 ls [.int w0_31]) := by
    intro w0_31 H locs ls h hI hl
    rw [hj31] at h
    refine lv_istore_n (lv' := [(3, .int w0_31), (0, .ref (a 6)), (1, .int x1), (2, .int x2)]) hx hb dX4_reorder_31 rfl hl (by decide) rfl (fun ls hl => ?_)
    refine lv_iconst (v := 0) hx hb dX4_reorder_32 (by decide) ?_
    refine lv_istore (lv' := [(4, .int 0), (3, .int w0_31), (0, .ref (a 6)), (1, .int x1), (2, .int x2)]) hx hb dX4_reorder_33 hl (by decide) rfl (fun ls hl => ?_)
    obtain ⟨lp35, hz35, hs35, h⟩ := gLoop3_in h
    have L35 : ∀ (n : Nat) (v3_35 : Int32) (v4_35 : Int32) (s_35 : gSt) (H : Heap) (locs : List Loc) (ls : Array Slot), lp35 n v3_35 v4_35 s_35 = some out → g_S 65 D a (gE a cI s_35) s.heap H locs → lv_has ls 5 [(0, .ref (a 6)), (1, .int x1), (2, .int x2), (3, .int v3_35), (4, .int v4_35)] → W p l e rmX4_reorder s m args below meth c H locs 0 0 Q (F0 m 35 ls []) := by
      intro n
      induction n with
      | zero => intro v3_35 v4_35 s_35 H locs ls h; rw [hz35] at h; cases h
      | succ n ih35 =>
        intro v3_35 v4_35 s_35 H locs ls h hI hl
        rw [hs35] at h
        refine lv_iload hx hb dX4_reorder_35 (lv_at hl 4 rfl) ?_
        refine lv_bipush (v := 24) hx hb dX4_reorder_37 (by decide) ?_
        obtain ⟨j62, hj62, h⟩ := gJoin0_in h
        have J62 : ∀ (H : Heap) (locs : List Loc) (ls : Array Slot), j62  = some out → g_S 65 D a (gE a cI s_35) s.heap H locs → lv_has ls 5 [(0, .ref (a 6)), (1, .int x1)] → W p l e rmX4_reorder s m args below meth c H locs 0 0 Q (F0 m 62 ls []) := by
          intro  H locs ls h hI hl
          rw [hj62] at h
          refine lv_iconst (v := 0) hx hb dX4_reorder_62 (by decide) ?_
          refine lv_istore (lv' := [(4, .int 0), (0, .ref (a 6)), (1, .int x1)]) hx hb dX4_reorder_63 hl (by decide) rfl (fun ls hl => ?_)
          obtain ⟨lp65, hz65, hs65, h⟩ := gLoop2_in h
          have L65 : ∀ (n : Nat) (v4_65 : Int32) (s_65 : gSt) (H : Heap) (locs : List Loc) (ls : Array Slot), lp65 n v4_65 s_65 = some out → g_S 65 D a (gE a cI s_65) s.heap H locs → lv_has ls 5 [(0, .ref (a 6)), (1, .int x1), (4, .int v4_65)] → W p l e rmX4_reorder s m args below meth c H locs 0 0 Q (F0 m 65 ls []) := by
            intro n
            induction n with
            | zero => intro v4_65 s_65 H locs ls h; rw [hz65] at h; cases h
            | succ n ih65 =>
              intro v4_65 s_65 H locs ls h hI hl
              rw [hs65] at h
              refine lv_iload hx hb dX4_reorder_65 (lv_at hl 2 rfl) ?_
              refine lv_aload_n hx hb dX4_reorder_67 rfl (lv_at hl 0 rfl) ?_
              refine g_get F hI (by decide) gE_6 rfl ku_X4 7 (by decide) kf_X4_98 rfl dX4_reorder_68 ?_
              refine lv_icmp_ge (tgt := 107) hx hb dX4_reorder_71 (by decide) (fun c_71 => ?_) (fun c_71 => ?_)
              · have h := (if_pos c_71).symm.trans h
                have h := Option.some.inj h
                subst h
                exact hq _ _ _ _ hI dX4_reorder_107
              · have h := (if_neg c_71).symm.trans h
                refine lv_aload_n hx hb dX4_reorder_74 rfl (lv_at hl 0 rfl) ?_
                refine g_get F hI (by decide) gE_6 rfl ku_X4 9 (by decide) kf_X4_95 rfl dX4_reorder_75 ?_
                refine lv_iconst (v := -1) hx hb dX4_reorder_78 (by decide) ?_
                refine lv_icmp_eq (tgt := 107) hx hb dX4_reorder_79 (by decide) (fun c_79 => ?_) (fun c_79 => ?_)
                · have h := (if_pos c_79).symm.trans h
                  have h := Option.some.inj h
                  subst h
                  exact hq _ _ _ _ hI dX4_reorder_107
                · have h := (if_neg c_79).symm.trans h
                  refine lv_aload_n hx hb dX4_reorder_82 rfl (lv_at hl 0 rfl) ?_
                  refine g_get F hI (by decide) gE_6 rfl ku_X4 2 (by decide) kf_X4_37 rfl dX4_reorder_83 ?_
                  refine lv_iload_n hx hb dX4_reorder_86 rfl (lv_at hl 1 rfl) ?_
                  refine lv_iload hx hb dX4_reorder_87 (lv_at hl 2 rfl) ?_
                  refine lv_aload_n hx hb dX4_reorder_89 rfl (lv_at hl 0 rfl) ?_
                  refine g_get F hI (by decide) gE_6 rfl ku_X4 6 (by decide) kf_X4_26 rfl dX4_reorder_90 ?_
                  refine lv_iload hx hb dX4_reorder_93 (lv_at hl 2 rfl) ?_
                  refine g_rget F hI 15 (by decide) km_X4_108 ⟨Nat.le_of_ble_eq_true rfl, Nat.le_of_ble_eq_true rfl⟩ hl.1 (Nat.le_of_ble_eq_true rfl) ⟨Nat.zero_le _, Nat.zero_le _⟩ dX4_reorder_95 (fun H locs hI => ?_)
                  refine g_callVv (E' := gE a cI (f_X2_replaceControl s_65 x1 v4_65 (gget s_65 15 v4_65))) (k0 := 5) (As := [.int x1, .int v4_65, .int (gget s_65 15 v4_65)]) (rest := []) F hI (c_X2_replaceControl l D a cI F.2.2 s_65 x1 v4_65 (gget s_65 15 v4_65)) kb_X2_replaceControl ki_X2_replaceControl ks_X2_replaceControl km_X4_111 ⟨Nat.le_of_ble_eq_true rfl, Nat.le_of_ble_eq_true rfl, rfl, rfl⟩ (by decide) gE_5 rfl hl.1 rfl (Nat.le_of_ble_eq_true rfl) ⟨Nat.zero_le _, Nat.zero_le _⟩ dX4_reorder_98 (fun H locs hI => ?_)
                  refine lv_iinc (v := v4_65 + 1) (lv' := [(4, .int (v4_65 + 1)), (0, .ref (a 6)), (1, .int x1)]) hx hb dX4_reorder_101 hl (k := 2) rfl rfl (by decide) rfl (fun ls hl => ?_)
                  refine lv_goto (tgt := 65) hx hb dX4_reorder_104 (by decide) ?_
                  exact ih65 _ _ _ _ _ h hI (lv_sub hl [1, 2, 0] rfl)
          exact L65 _ _ _ _ _ _ h hI (lv_sub hl [1, 2, 0] rfl)
        refine lv_icmp_ge (tgt := 62) hx hb dX4_reorder_39 (by decide) (fun c_39 => ?_) (fun c_39 => ?_)
        · have h := (if_pos c_39).symm.trans h
          exact J62 _ _ _ h hI (lv_sub hl [0, 1] rfl)
        · have h := (if_neg c_39).symm.trans h
          refine lv_iload_n hx hb dX4_reorder_42 rfl (lv_at hl 3 rfl) ?_
          refine lv_if_eq (tgt := 62) hx hb dX4_reorder_43 (by decide) (fun c_43 => ?_) (fun c_43 => ?_)
          · have h := (if_pos c_43).symm.trans h
            exact J62 _ _ _ h hI (lv_sub hl [0, 1] rfl)
          · have h := (if_neg c_43).symm.trans h
            refine lv_aload_n hx hb dX4_reorder_46 rfl (lv_at hl 0 rfl) ?_
            refine lv_iload_n hx hb dX4_reorder_47 rfl (lv_at hl 2 rfl) ?_
            obtain ⟨s_48, e_48, h⟩ := gBind_in h
            refine g_callVv (E' := gE a cI s_48) (k0 := 6) (As := [.int x2]) (rest := []) F hI (c_X4_judgeOrder l D a cI F.2.2 N s_35 x2 s_48 e_48) kb_X4_judgeOrder ki_X4_judgeOrder ks_X4_judgeOrder km_X4_101 ⟨Nat.le_of_ble_eq_true rfl, Nat.le_of_ble_eq_true rfl, rfl, rfl⟩ (by decide) gE_6 rfl hl.1 rfl (Nat.le_of_ble_eq_true rfl) ⟨Nat.zero_le _, Nat.zero_le _⟩ dX4_reorder_48 (fun H locs hI => ?_)
            refine lv_aload_n hx hb dX4_reorder_51 rfl (lv_at hl 0 rfl) ?_
            obtain ⟨q_52, e_52, h⟩ := gBind_in h
            refine g_callVi (E' := gE a cI q_52.2) (k0 := 6) (As := []) (rest := []) F hI (c_X4_goToNextOrder l D a cI F.2.2 N s_48 q_52 e_52) kb_X4_goToNextOrder ki_X4_goToNextOrder ks_X4_goToNextOrder km_X4_104 ⟨Nat.le_of_ble_eq_true rfl, Nat.le_of_ble_eq_true rfl, rfl, rfl⟩ (by decide) gE_6 rfl hl.1 rfl (Nat.le_of_ble_eq_true rfl) ⟨Nat.zero_le _, Nat.zero_le _⟩ dX4_reorder_52 (fun H locs hI => ?_)
            refine lv_istore_n (lv' := [(3, .int q_52.1), (0, .ref (a 6)), (1, .int x1), (2, .int x2), (4, .int v4_35)]) hx hb dX4_reorder_55 rfl hl (by decide) rfl (fun ls hl => ?_)
            refine lv_iinc (v := v4_35 + 1) (lv' := [(4, .int (v4_35 + 1)), (3, .int q_52.1), (0, .ref (a 6)), (1, .int x1), (2, .int x2)]) hx hb dX4_reorder_56 hl (k := 4) rfl rfl (by decide) rfl (fun ls hl => ?_)
            refine lv_goto (tgt := 35) hx hb dX4_reorder_59 (by decide) ?_
            exact ih35 _ _ _ _ _ _ h hI (lv_sub hl [2, 3, 4, 1, 0] rfl)
    exact L35 _ _ _ _ _ _ _ h hI (lv_sub hl [2, 3, 4, 1, 0] rfl)
  refine lv_icmp_lt (tgt := 30) hx hb dX4_reorder_23 (by decide) (fun c_23 => ?_) (fun c_23 => ?_)
  · have h := (if_pos c_23).symm.trans h
    refine lv_iconst (v := 0) hx hb dX4_reorder_30 (by decide) ?_
    exact J31 _ _ _ _ h hI (lv_sub hl [0, 1, 2] rfl)
  · have h := (if_neg c_23).symm.trans h
    refine lv_iconst (v := 1) hx hb dX4_reorder_26 (by decide) ?_
    refine lv_goto (tgt := 31) hx hb dX4_reorder_27 (by decide) ?_
    exact J31 _ _ _ _ h hI (lv_sub hl [0, 1, 2] rfl)
/-- Spurline$Results.nextToCount(II)I -/
def f_X5_nextToCount (N : Nat) (σ : gSt) (x1 x2 : Int32) : Option Int32 :=
  gLoop1 (fun self4 (v3_4 : Int32) =>
    if f_X2_length σ x1 ≤ v3_4 then
      some v3_4
    else
      if f_X1_hasFailed σ (f_X2_controlAt σ x1 v3_4) = 0 then
        some v3_4
      else
        self4 (v3_4 + 1)) N (x2 + 1)
abbrev rmX5_nextToCount : Room := { frames := 2, cells := 0, slots := 0, locals := 43 }
theorem kb_X5_nextToCount : g_CB yX5_nextToCount cX5_nextToCount 4 (some .int) 2 := ⟨kc_X5_nextToCount, kn_X5, by decide +kernel⟩
set_option maxRecDepth 100000 in
set_option maxHeartbeats 4000000 in
theorem c_X5_nextToCount (l : Launch) (D : va_G) (a : Nat → Nat) (cI : ClassId) (hj : g_Inj 65 a) (N : Nat) (σ : gSt) (x1 x2 : Int32) (out : Int32) (hh : f_X5_nextToCount N σ x1 x2 = some out) : Met l yX5_nextToCount (Cond.code yX5_nextToCount cX5_nextToCount 4 (some .int) :: gW) rmX5_nextToCount (g_Pc 65 D a (gE a cI σ) [(cI, .int)] [.ref (a 8), .int x1, .int x2]) (g_Qi 65 D a (gE a cI σ) out) 0 0 (g_Own 65 a) := by
  refine g_meti (by decide) hj (Nat.le_of_ble_eq_true rfl) ?_
  intro p e s m args below meth c Q ls F hl hI hq
  have hx := F.1.1
  have hb := F.1.2.1
  have hl : lv_has ls 4 [(0, .ref (a 8)), (1, .int x1), (2, .int x2)] := hl
  have h := hh
  unfold f_X5_nextToCount at h
  refine lv_iload_n hx hb dX5_nextToCount_0 rfl (lv_at hl 2 rfl) ?_
  refine lv_iconst (v := 1) hx hb dX5_nextToCount_1 (by decide) ?_
  refine lv_iadd hx hb dX5_nextToCount_2 ?_
  refine lv_istore_n (lv' := [(3, .int (x2 + 1)), (0, .ref (a 8)), (1, .int x1), (2, .int x2)]) hx hb dX5_nextToCount_3 rfl hl (by decide) rfl (fun ls hl => ?_)
  obtain ⟨lp4, hz4, hs4, h⟩ := gLoop1_in h
  have L4 : ∀ (n : Nat) (v3_4 : Int32) (H : Heap) (locs : List Loc) (ls : Array Slot), lp4 n v3_4 = some out → g_S 65 D a (gE a cI σ) s.heap H locs → lv_has ls 4 [(0, .ref (a 8)), (1, .int x1), (3, .int v3_4)] → W p l e rmX5_nextToCount s m args below meth c H locs 0 0 Q (F0 m 4 ls []) := by
    intro n
    induction n with
    | zero => intro v3_4 H locs ls h; rw [hz4] at h; cases h
    | succ n ih4 =>
      intro v3_4 H locs ls h hI hl
      rw [hs4] at h
      refine lv_iload_n hx hb dX5_nextToCount_4 rfl (lv_at hl 2 rfl) ?_
      refine lv_aload_n hx hb dX5_nextToCount_5 rfl (lv_at hl 0 rfl) ?_
      refine g_get F hI (by decide) gE_8 rfl ku_X5 1 (by decide) kf_X5_36 rfl dX5_nextToCount_6 ?_
      refine lv_iload_n hx hb dX5_nextToCount_9 rfl (lv_at hl 1 rfl) ?_
      refine g_callVi (E' := gE a cI σ) (k0 := 5) (As := [.int x1]) (rest := [.int v3_4]) F hI (c_X2_length l D a cI F.2.2 σ x1) kb_X2_length ki_X2_length ks_X2_length km_X5_112 ⟨Nat.le_of_ble_eq_true rfl, Nat.le_of_ble_eq_true rfl, rfl, rfl⟩ (by decide) gE_5 rfl hl.1 rfl (Nat.le_of_ble_eq_true rfl) ⟨Nat.zero_le _, Nat.zero_le _⟩ dX5_nextToCount_10 (fun H locs hI => ?_)
      refine lv_icmp_ge (tgt := 41) hx hb dX5_nextToCount_13 (by decide) (fun c_13 => ?_) (fun c_13 => ?_)
      · have h := (if_pos c_13).symm.trans h
        refine lv_iload_n hx hb dX5_nextToCount_41 rfl (lv_at hl 2 rfl) ?_
        have h := Option.some.inj h
        subst h
        exact hq _ _ _ _ hI dX5_nextToCount_42
      · have h := (if_neg c_13).symm.trans h
        refine lv_aload_n hx hb dX5_nextToCount_16 rfl (lv_at hl 0 rfl) ?_
        refine g_get F hI (by decide) gE_8 rfl ku_X5 0 (by decide) kf_X5_32 rfl dX5_nextToCount_17 ?_
        refine lv_aload_n hx hb dX5_nextToCount_20 rfl (lv_at hl 0 rfl) ?_
        refine g_get F hI (by decide) gE_8 rfl ku_X5 1 (by decide) kf_X5_36 rfl dX5_nextToCount_21 ?_
        refine lv_iload_n hx hb dX5_nextToCount_24 rfl (lv_at hl 1 rfl) ?_
        refine lv_iload_n hx hb dX5_nextToCount_25 rfl (lv_at hl 2 rfl) ?_
        refine g_callVi (E' := gE a cI σ) (k0 := 5) (As := [.int x1, .int v3_4]) (rest := [.ref (a 4)]) F hI (c_X2_controlAt l D a cI F.2.2 σ x1 v3_4) kb_X2_controlAt ki_X2_controlAt ks_X2_controlAt km_X5_101 ⟨Nat.le_of_ble_eq_true rfl, Nat.le_of_ble_eq_true rfl, rfl, rfl⟩ (by decide) gE_5 rfl hl.1 rfl (Nat.le_of_ble_eq_true rfl) ⟨Nat.zero_le _, Nat.zero_le _⟩ dX5_nextToCount_26 (fun H locs hI => ?_)
        refine g_callVi (E' := gE a cI σ) (k0 := 4) (As := [.int (f_X2_controlAt σ x1 v3_4)]) (rest := []) F hI (c_X1_hasFailed l D a cI F.2.2 σ (f_X2_controlAt σ x1 v3_4)) kb_X1_hasFailed ki_X1_hasFailed ks_X1_hasFailed km_X5_121 ⟨Nat.le_of_ble_eq_true rfl, Nat.le_of_ble_eq_true rfl, rfl, rfl⟩ (by decide) gE_4 rfl hl.1 rfl (Nat.le_of_ble_eq_true rfl) ⟨Nat.zero_le _, Nat.zero_le _⟩ dX5_nextToCount_29 (fun H locs hI => ?_)
        refine lv_if_eq (tgt := 41) hx hb dX5_nextToCount_32 (by decide) (fun c_32 => ?_) (fun c_32 => ?_)
        · have h := (if_pos c_32).symm.trans h
          refine lv_iload_n hx hb dX5_nextToCount_41 rfl (lv_at hl 2 rfl) ?_
          have h := Option.some.inj h
          subst h
          exact hq _ _ _ _ hI dX5_nextToCount_42
        · have h := (if_neg c_32).symm.trans h
          refine lv_iinc (v := v3_4 + 1) (lv' := [(3, .int (v3_4 + 1)), (0, .ref (a 8)), (1, .int x1)]) hx hb dX5_nextToCount_35 hl (k := 2) rfl rfl (by decide) rfl (fun ls hl => ?_)
          refine lv_goto (tgt := 4) hx hb dX5_nextToCount_38 (by decide) ?_
          exact ih4 _ _ _ _ h hI (lv_sub hl [1, 2, 0] rfl)
  exact L4 _ _ _ _ _ h hI (lv_sub hl [1, 2, 0] rfl)
/-- Spurline$Results.followPunches(I)V -/
def f_X5_followPunches (N : Nat) (σ : gSt) (x1 : Int32) : Option gSt :=
  (f_X5_nextToCount N (gput σ 23 (x1 * 6) (f_X3_startMinute σ x1)) (f_X3_klassOf σ x1) 0).bind (fun (r_31 : Int32) =>
  gLoop3 (fun self38 (v3_38 : Int32) (v4_38 : Int32) (s_38 : gSt) =>
    if f_X3_punchCount s_38 x1 ≤ v4_38 then
      gJoin1 (fun (w0_135 : Int32) =>
          (f_X3_hasPunched N s_38 x1 (f_X2_finish s_38 (f_X3_klassOf σ x1))).bind (fun (r_150 : Int32) =>
          gJoin1 (fun (w0_179 : Int32) =>
              some (gput s_38 26 x1 w0_179)) (fun j179 =>
            if w0_135 = 0 then
              if r_150 = 0 then
                j179 0
              else
                j179 2
            else
              j179 1))) (fun j135 =>
        if v3_38 < f_X2_length s_38 (f_X3_klassOf σ x1) then
          j135 0
        else
          j135 1)
    else
      gJoin2 (fun (v3_112 : Int32) (s_112 : gSt) =>
          self38 v3_112 (v4_38 + 1) s_112) (fun j112 =>
        if f_X3_punchedControl s_38 x1 v4_38 = f_X2_controlAt s_38 (f_X3_klassOf σ x1) v3_38 then
          (f_X5_nextToCount N (ginc (gput s_38 23 ((x1 * 6) + v3_38) (f_X3_punchedMinute s_38 x1 v4_38)) 25 x1 1) (f_X3_klassOf σ x1) v3_38).bind (fun (r_108 : Int32) =>
          j112 r_108 (ginc (gput s_38 23 ((x1 * 6) + v3_38) (f_X3_punchedMinute s_38 x1 v4_38)) 25 x1 1))
        else
          j112 v3_38 s_38)) N r_31 0 (gput σ 23 (x1 * 6) (f_X3_startMinute σ x1)))
abbrev rmX5_followPunches : Room := { frames := 3, cells := 0, slots := 0, locals := 66 }
theorem kb_X5_followPunches : g_CB yX5_followPunches cX5_followPunches 6 none 1 := ⟨kc_X5_followPunches, kn_X5, by decide +kernel⟩
set_option maxRecDepth 100000 in
set_option maxHeartbeats 4000000 in
theorem c_X5_followPunches (l : Launch) (D : va_G) (a : Nat → Nat) (cI : ClassId) (hj : g_Inj 65 a) (N : Nat) (σ : gSt) (x1 : Int32) (out : gSt) (hh : f_X5_followPunches N σ x1 = some out) : Met l yX5_followPunches (Cond.code yX5_followPunches cX5_followPunches 6 none :: gW) rmX5_followPunches (g_Pc 65 D a (gE a cI σ) [(cI, .int)] [.ref (a 8), .int x1]) (g_Qv 65 D a (gE a cI out)) 0 0 (g_Own 65 a) := by
  refine g_metv (by decide) hj (Nat.le_of_ble_eq_true rfl) ?_
  intro p e s m args below meth c Q ls F hl hI hq
  have hx := F.1.1
  have hb := F.1.2.1
  have hl : lv_has ls 6 [(0, .ref (a 8)), (1, .int x1)] := hl
  have h := hh
  unfold f_X5_followPunches at h
  refine lv_aload_n hx hb dX5_followPunches_0 rfl (lv_at hl 0 rfl) ?_
  refine g_get F hI (by decide) gE_8 rfl ku_X5 2 (by decide) kf_X5_40 rfl dX5_followPunches_1 ?_
  refine lv_iload_n hx hb dX5_followPunches_4 rfl (lv_at hl 1 rfl) ?_
  refine g_callVi (E' := gE a cI σ) (k0 := 7) (As := [.int x1]) (rest := []) F hI (c_X3_klassOf l D a cI F.2.2 σ x1) kb_X3_klassOf ki_X3_klassOf ks_X3_klassOf km_X5_63 ⟨Nat.le_of_ble_eq_true rfl, Nat.le_of_ble_eq_true rfl, rfl, rfl⟩ (by decide) gE_7 rfl hl.1 rfl (Nat.le_of_ble_eq_true rfl) ⟨Nat.zero_le _, Nat.zero_le _⟩ dX5_followPunches_5 (fun H locs hI => ?_)
  refine lv_istore_n (lv' := [(2, .int (f_X3_klassOf σ x1)), (0, .ref (a 8)), (1, .int x1)]) hx hb dX5_followPunches_8 rfl hl (by decide) rfl (fun ls hl => ?_)
  refine lv_aload_n hx hb dX5_followPunches_9 rfl (lv_at hl 1 rfl) ?_
  refine g_get F hI (by decide) gE_8 rfl ku_X5 3 (by decide) kf_X5_14 rfl dX5_followPunches_10 ?_
  refine lv_iload_n hx hb dX5_followPunches_13 rfl (lv_at hl 2 rfl) ?_
  refine lv_bipush (v := 6) hx hb dX5_followPunches_14 (by decide) ?_
  refine lv_imul hx hb dX5_followPunches_16 ?_
  refine lv_aload_n hx hb dX5_followPunches_17 rfl (lv_at hl 1 rfl) ?_
  refine g_get F hI (by decide) gE_8 rfl ku_X5 2 (by decide) kf_X5_40 rfl dX5_followPunches_18 ?_
  refine lv_iload_n hx hb dX5_followPunches_21 rfl (lv_at hl 2 rfl) ?_
  refine g_callVi (E' := gE a cI σ) (k0 := 7) (As := [.int x1]) (rest := [.int (x1 * 6), .ref (a 32)]) F hI (c_X3_startMinute l D a cI F.2.2 σ x1) kb_X3_startMinute ki_X3_startMinute ks_X3_startMinute km_X5_85 ⟨Nat.le_of_ble_eq_true rfl, Nat.le_of_ble_eq_true rfl, rfl, rfl⟩ (by decide) gE_7 rfl hl.1 rfl (Nat.le_of_ble_eq_true rfl) ⟨Nat.zero_le _, Nat.zero_le _⟩ dX5_followPunches_22 (fun H locs hI => ?_)
  refine g_rput F hI 23 (by decide) km_X5_88 ⟨Nat.le_of_ble_eq_true rfl, Nat.le_of_ble_eq_true rfl⟩ hl.1 (Nat.le_of_ble_eq_true rfl) ⟨Nat.zero_le _, Nat.zero_le _⟩ dX5_followPunches_25 (fun H locs hI => ?_)
  refine lv_aload_n hx hb dX5_followPunches_28 rfl (lv_at hl 1 rfl) ?_
  refine lv_iload_n hx hb dX5_followPunches_29 rfl (lv_at hl 0 rfl) ?_
  refine lv_iconst (v := 0) hx hb dX5_followPunches_30 (by decide) ?_
  obtain ⟨r_31, e_31, h⟩ := gBind_in h
  refine g_callVi (E' := gE a cI (gput σ 23 (x1 * 6) (f_X3_startMinute σ x1))) (k0 := 8) (As := [.int (f_X3_klassOf σ x1), .int 0]) (rest := []) F hI (c_X5_nextToCount l D a cI F.2.2 N (gput σ 23 (x1 * 6) (f_X3_startMinute σ x1)) (f_X3_klassOf σ x1) 0 r_31 e_31) kb_X5_nextToCount ki_X5_nextToCount ks_X5_nextToCount km_X5_92 ⟨Nat.le_of_ble_eq_true rfl, Nat.le_of_ble_eq_true rfl, rfl, rfl⟩ (by decide) gE_8 rfl hl.1 rfl (Nat.le_of_ble_eq_true rfl) ⟨Nat.zero_le _, Nat.zero_le _⟩ dX5_followPunches_31 (fun H locs hI => ?_)
  refine lv_istore_n (lv' := [(3, .int r_31), (2, .int (f_X3_klassOf σ x1)), (0, .ref (a 8)), (1, .int x1)]) hx hb dX5_followPunches_34 rfl hl (by decide) rfl (fun ls hl => ?_)
  refine lv_iconst (v := 0) hx hb dX5_followPunches_35 (by decide) ?_
  refine lv_istore (lv' := [(4, .int 0), (3, .int r_31), (2, .int (f_X3_klassOf σ x1)), (0, .ref (a 8)), (1, .int x1)]) hx hb dX5_followPunches_36 hl (by decide) rfl (fun ls hl => ?_)
  obtain ⟨lp38, hz38, hs38, h⟩ := gLoop3_in h
  have L38 : ∀ (n : Nat) (v3_38 : Int32) (v4_38 : Int32) (s_38 : gSt) (H : Heap) (locs : List Loc) (ls : Array Slot), lp38 n v3_38 v4_38 s_38 = some out → g_S 65 D a (gE a cI s_38) s.heap H locs → lv_has ls 6 [(0, .ref (a 8)), (1, .int x1), (2, .int (f_X3_klassOf σ x1)), (3, .int v3_38), (4, .int v4_38)] → W p l e rmX5_followPunches s m args below meth c H locs 0 0 Q (F0 m 38 ls []) := by
    intro n
    induction n with
    | zero => intro v3_38 v4_38 s_38 H locs ls h; rw [hz38] at h; cases h
    | succ n ih38 =>
      intro v3_38 v4_38 s_38 H locs ls h hI hl
      rw [hs38] at h
      refine lv_iload hx hb dX5_followPunches_38 (lv_at hl 4 rfl) ?_
      refine lv_aload_n hx hb dX5_followPunches_40 rfl (lv_at hl 0 rfl) ?_
      refine g_get F hI (by decide) gE_8 rfl ku_X5 2 (by decide) kf_X5_40 rfl dX5_followPunches_41 ?_
      refine lv_iload_n hx hb dX5_followPunches_44 rfl (lv_at hl 1 rfl) ?_
      refine g_callVi (E' := gE a cI s_38) (k0 := 7) (As := [.int x1]) (rest := [.int v4_38]) F hI (c_X3_punchCount l D a cI F.2.2 s_38 x1) kb_X3_punchCount ki_X3_punchCount ks_X3_punchCount km_X5_95 ⟨Nat.le_of_ble_eq_true rfl, Nat.le_of_ble_eq_true rfl, rfl, rfl⟩ (by decide) gE_7 rfl hl.1 rfl (Nat.le_of_ble_eq_true rfl) ⟨Nat.zero_le _, Nat.zero_le _⟩ dX5_followPunches_45 (fun H locs hI => ?_)
      refine lv_icmp_ge (tgt := 118) hx hb dX5_followPunches_48 (by decide) (fun c_48 => ?_) (fun c_48 => ?_)
      · have h := (if_pos c_48).symm.trans h
        refine lv_iload_n hx hb dX5_followPunches_118 rfl (lv_at hl 3 rfl) ?_
        refine lv_aload_n hx hb dX5_followPunches_119 rfl (lv_at hl 0 rfl) ?_
        refine g_get F hI (by decide) gE_8 rfl ku_X5 1 (by decide) kf_X5_36 rfl dX5_followPunches_120 ?_
        refine lv_iload_n hx hb dX5_followPunches_123 rfl (lv_at hl 2 rfl) ?_
        refine g_callVi (E' := gE a cI s_38) (k0 := 5) (As := [.int (f_X3_klassOf σ x1)]) (rest := [.int v3_38]) F hI (c_X2_length l D a cI F.2.2 s_38 (f_X3_klassOf σ x1)) kb_X2_length ki_X2_length ks_X2_length km_X5_112 ⟨Nat.le_of_ble_eq_true rfl, Nat.le_of_ble_eq_true rfl, rfl, rfl⟩ (by decide) gE_5 rfl hl.1 rfl (Nat.le_of_ble_eq_true rfl) ⟨Nat.zero_le _, Nat.zero_le _⟩ dX5_followPunches_124 (fun H locs hI => ?_)
        obtain ⟨j135, hj135, h⟩ := gJoin1_in h
        have J135 : ∀ (w0_135 : Int32) (H : Heap) (locs : List Loc) (ls : Array Slot), j135 w0_135 = some out → g_S 65 D a (gE a cI s_38) s.heap H locs → lv_has ls 6 [(0, .ref (a 8)), (1, .int x1), (2, .int (f_X3_klassOf σ x1))] → W p l e rmX5_followPunches s m args below meth c H locs 0 0 Q (F0 m 135 ls [.int w0_135]) := by
          intro w0_135 H locs ls h hI hl
          rw [hj135] at h
          refine lv_istore (lv' := [(4, .int w0_135), (0, .ref (a 8)), (1, .int x1), (2, .int (f_X3_klassOf σ x1))]) hx hb dX5_followPunches_135 hl (by decide) rfl (fun ls hl => ?_)
          refine lv_aload_n hx hb dX5_followPunches_137 rfl (lv_at hl 1 rfl) ?_
          refine g_get F hI (by decide) gE_8 rfl ku_X5 2 (by decide) kf_X5_40 rfl dX5_followPunches_138 ?_
          refine lv_iload_n hx hb dX5_followPunches_141 rfl (lv_at hl 2 rfl) ?_
          refine lv_aload_n hx hb dX5_followPunches_142 rfl (lv_at hl 1 rfl) ?_
          refine g_get F hI (by decide) gE_8 rfl ku_X5 1 (by decide) kf_X5_36 rfl dX5_followPunches_143 ?_
          refine lv_iload_n hx hb dX5_followPunches_146 rfl (lv_at hl 3 rfl) ?_
          refine g_callVi (E' := gE a cI s_38) (k0 := 5) (As := [.int (f_X3_klassOf σ x1)]) (rest := [.int x1, .ref (a 7)]) F hI (c_X2_finish l D a cI F.2.2 s_38 (f_X3_klassOf σ x1)) kb_X2_finish ki_X2_finish ks_X2_finish km_X5_115 ⟨Nat.le_of_ble_eq_true rfl, Nat.le_of_ble_eq_true rfl, rfl, rfl⟩ (by decide) gE_5 rfl hl.1 rfl (Nat.le_of_ble_eq_true rfl) ⟨Nat.zero_le _, Nat.zero_le _⟩ dX5_followPunches_147 (fun H locs hI => ?_)
          obtain ⟨r_150, e_150, h⟩ := gBind_in h
          refine g_callVi (E' := gE a cI s_38) (k0 := 7) (As := [.int x1, .int (f_X2_finish s_38 (f_X3_klassOf σ x1))]) (rest := []) F hI (c_X3_hasPunched l D a cI F.2.2 N s_38 x1 (f_X2_finish s_38 (f_X3_klassOf σ x1)) r_150 e_150) kb_X3_hasPunched ki_X3_hasPunched ks_X3_hasPunched km_X5_118 ⟨Nat.le_of_ble_eq_true rfl, Nat.le_of_ble_eq_true rfl, rfl, rfl⟩ (by decide) gE_7 rfl hl.1 rfl (Nat.le_of_ble_eq_true rfl) ⟨Nat.zero_le _, Nat.zero_le _⟩ dX5_followPunches_150 (fun H locs hI => ?_)
          refine lv_istore (lv' := [(5, .int r_150), (4, .int w0_135), (0, .ref (a 8)), (1, .int x1), (2, .int (f_X3_klassOf σ x1))]) hx hb dX5_followPunches_153 hl (by decide) rfl (fun ls hl => ?_)
          refine lv_aload_n hx hb dX5_followPunches_155 rfl (lv_at hl 2 rfl) ?_
          refine g_get F hI (by decide) gE_8 rfl ku_X5 6 (by decide) kf_X5_26 rfl dX5_followPunches_156 ?_
          refine lv_iload_n hx hb dX5_followPunches_159 rfl (lv_at hl 3 rfl) ?_
          refine lv_iload hx hb dX5_followPunches_160 (lv_at hl 1 rfl) ?_
          obtain ⟨j179, hj179, h⟩ := gJoin1_in h
          have J179 : ∀ (w0_179 : Int32) (H : Heap) (locs : List Loc) (ls : Array Slot), j179 w0_179 = some out → g_S 65 D a (gE a cI s_38) s.heap H locs → lv_has ls 6 [] → W p l e rmX5_followPunches s m args below meth c H locs 0 0 Q (F0 m 179 ls [.int w0_179, .int x1, .ref (a 35)]) := by
            intro w0_179 H locs ls h hI hl
            rw [hj179] at h
            refine g_rput F hI 26 (by decide) km_X5_88 ⟨Nat.le_of_ble_eq_true rfl, Nat.le_of_ble_eq_true rfl⟩ hl.1 (Nat.le_of_ble_eq_true rfl) ⟨Nat.zero_le _, Nat.zero_le _⟩ dX5_followPunches_179 (fun H locs hI => ?_)
            have h := Option.some.inj h
            subst h
            exact hq _ _ _ _ hI dX5_followPunches_182
          refine lv_if_eq (tgt := 169) hx hb dX5_followPunches_162 (by decide) (fun c_162 => ?_) (fun c_162 => ?_)
          · have h := (if_pos c_162).symm.trans h
            refine lv_iload hx hb dX5_followPunches_169 (lv_at hl 0 rfl) ?_
            refine lv_if_eq (tgt := 178) hx hb dX5_followPunches_171 (by decide) (fun c_171 => ?_) (fun c_171 => ?_)
            · have h := (if_pos c_171).symm.trans h
              refine lv_iconst (v := 0) hx hb dX5_followPunches_178 (by decide) ?_
              exact J179 _ _ _ _ h hI (lv_sub hl [] rfl)
            · have h := (if_neg c_171).symm.trans h
              refine lv_iconst (v := 2) hx hb dX5_followPunches_174 (by decide) ?_
              refine lv_goto (tgt := 179) hx hb dX5_followPunches_175 (by decide) ?_
              exact J179 _ _ _ _ h hI (lv_sub hl [] rfl)
          · have h := (if_neg c_162).symm.trans h
            refine lv_iconst (v := 1) hx hb dX5_followPunches_165 (by decide) ?_
            refine lv_goto (tgt := 179) hx hb dX5_followPunches_166 (by decide) ?_
            exact J179 _ _ _ _ h hI (lv_sub hl [] rfl)
        refine lv_icmp_lt (tgt := 134) hx hb dX5_followPunches_127 (by decide) (fun c_127 => ?_) (fun c_127 => ?_)
        · have h := (if_pos c_127).symm.trans h
          refine lv_iconst (v := 0) hx hb dX5_followPunches_134 (by decide) ?_
          exact J135 _ _ _ _ h hI (lv_sub hl [0, 1, 2] rfl)
        · have h := (if_neg c_127).symm.trans h
          refine lv_iconst (v := 1) hx hb dX5_followPunches_130 (by decide) ?_
          refine lv_goto (tgt := 135) hx hb dX5_followPunches_131 (by decide) ?_
          exact J135 _ _ _ _ h hI (lv_sub hl [0, 1, 2] rfl)
      · have h := (if_neg c_48).symm.trans h
        refine lv_aload_n hx hb dX5_followPunches_51 rfl (lv_at hl 0 rfl) ?_
        refine g_get F hI (by decide) gE_8 rfl ku_X5 2 (by decide) kf_X5_40 rfl dX5_followPunches_52 ?_
        refine lv_iload_n hx hb dX5_followPunches_55 rfl (lv_at hl 1 rfl) ?_
        refine lv_iload hx hb dX5_followPunches_56 (lv_at hl 4 rfl) ?_
        refine g_callVi (E' := gE a cI s_38) (k0 := 7) (As := [.int x1, .int v4_38]) (rest := []) F hI (c_X3_punchedControl l D a cI F.2.2 s_38 x1 v4_38) kb_X3_punchedControl ki_X3_punchedControl ks_X3_punchedControl km_X5_98 ⟨Nat.le_of_ble_eq_true rfl, Nat.le_of_ble_eq_true rfl, rfl, rfl⟩ (by decide) gE_7 rfl hl.1 rfl (Nat.le_of_ble_eq_true rfl) ⟨Nat.zero_le _, Nat.zero_le _⟩ dX5_followPunches_58 (fun H locs hI => ?_)
        refine lv_aload_n hx hb dX5_followPunches_61 rfl (lv_at hl 0 rfl) ?_
        refine g_get F hI (by decide) gE_8 rfl ku_X5 1 (by decide) kf_X5_36 rfl dX5_followPunches_62 ?_
        refine lv_iload_n hx hb dX5_followPunches_65 rfl (lv_at hl 2 rfl) ?_
        refine lv_iload_n hx hb dX5_followPunches_66 rfl (lv_at hl 3 rfl) ?_
        refine g_callVi (E' := gE a cI s_38) (k0 := 5) (As := [.int (f_X3_klassOf σ x1), .int v3_38]) (rest := [.int (f_X3_punchedControl s_38 x1 v4_38)]) F hI (c_X2_controlAt l D a cI F.2.2 s_38 (f_X3_klassOf σ x1) v3_38) kb_X2_controlAt ki_X2_controlAt ks_X2_controlAt km_X5_101 ⟨Nat.le_of_ble_eq_true rfl, Nat.le_of_ble_eq_true rfl, rfl, rfl⟩ (by decide) gE_5 rfl hl.1 rfl (Nat.le_of_ble_eq_true rfl) ⟨Nat.zero_le _, Nat.zero_le _⟩ dX5_followPunches_67 (fun H locs hI => ?_)
        obtain ⟨j112, hj112, h⟩ := gJoin2_in h
        have J112 : ∀ (v3_112 : Int32) (s_112 : gSt) (H : Heap) (locs : List Loc) (ls : Array Slot), j112 v3_112 s_112 = some out → g_S 65 D a (gE a cI s_112) s.heap H locs → lv_has ls 6 [(0, .ref (a 8)), (1, .int x1), (2, .int (f_X3_klassOf σ x1)), (3, .int v3_112), (4, .int v4_38)] → W p l e rmX5_followPunches s m args below meth c H locs 0 0 Q (F0 m 112 ls []) := by
          intro v3_112 s_112 H locs ls h hI hl
          rw [hj112] at h
          refine lv_iinc (v := v4_38 + 1) (lv' := [(4, .int (v4_38 + 1)), (0, .ref (a 8)), (1, .int x1), (2, .int (f_X3_klassOf σ x1)), (3, .int v3_112)]) hx hb dX5_followPunches_112 hl (k := 4) rfl rfl (by decide) rfl (fun ls hl => ?_)
          refine lv_goto (tgt := 38) hx hb dX5_followPunches_115 (by decide) ?_
          exact ih38 _ _ _ _ _ _ h hI (lv_sub hl [1, 2, 3, 4, 0] rfl)
        refine lv_icmp_ne (tgt := 112) hx hb dX5_followPunches_70 (by decide) (fun c_70 => ?_) (fun c_70 => ?_)
        · have h := (if_neg c_70).symm.trans h
          exact J112 _ _ _ _ _ h hI (lv_sub hl [0, 1, 2, 3, 4] rfl)
        · have h := (if_pos c_70).symm.trans h
          refine lv_aload_n hx hb dX5_followPunches_73 rfl (lv_at hl 0 rfl) ?_
          refine g_get F hI (by decide) gE_8 rfl ku_X5 3 (by decide) kf_X5_14 rfl dX5_followPunches_74 ?_
          refine lv_iload_n hx hb dX5_followPunches_77 rfl (lv_at hl 1 rfl) ?_
          refine lv_bipush (v := 6) hx hb dX5_followPunches_78 (by decide) ?_
          refine lv_imul hx hb dX5_followPunches_80 ?_
          refine lv_iload_n hx hb dX5_followPunches_81 rfl (lv_at hl 3 rfl) ?_
          refine lv_iadd hx hb dX5_followPunches_82 ?_
          refine lv_aload_n hx hb dX5_followPunches_83 rfl (lv_at hl 0 rfl) ?_
          refine g_get F hI (by decide) gE_8 rfl ku_X5 2 (by decide) kf_X5_40 rfl dX5_followPunches_84 ?_
          refine lv_iload_n hx hb dX5_followPunches_87 rfl (lv_at hl 1 rfl) ?_
          refine lv_iload hx hb dX5_followPunches_88 (lv_at hl 4 rfl) ?_
          refine g_callVi (E' := gE a cI s_38) (k0 := 7) (As := [.int x1, .int v4_38]) (rest := [.int ((x1 * 6) + v3_38), .ref (a 32)]) F hI (c_X3_punchedMinute l D a cI F.2.2 s_38 x1 v4_38) kb_X3_punchedMinute ki_X3_punchedMinute ks_X3_punchedMinute km_X5_106 ⟨Nat.le_of_ble_eq_true rfl, Nat.le_of_ble_eq_true rfl, rfl, rfl⟩ (by decide) gE_7 rfl hl.1 rfl (Nat.le_of_ble_eq_true rfl) ⟨Nat.zero_le _, Nat.zero_le _⟩ dX5_followPunches_90 (fun H locs hI => ?_)
          refine g_rput F hI 23 (by decide) km_X5_88 ⟨Nat.le_of_ble_eq_true rfl, Nat.le_of_ble_eq_true rfl⟩ hl.1 (Nat.le_of_ble_eq_true rfl) ⟨Nat.zero_le _, Nat.zero_le _⟩ dX5_followPunches_93 (fun H locs hI => ?_)
          refine lv_aload_n hx hb dX5_followPunches_96 rfl (lv_at hl 0 rfl) ?_
          refine g_get F hI (by decide) gE_8 rfl ku_X5 5 (by decide) kf_X5_23 rfl dX5_followPunches_97 ?_
          refine lv_iload_n hx hb dX5_followPunches_100 rfl (lv_at hl 1 rfl) ?_
          refine lv_iconst (v := 1) hx hb dX5_followPunches_101 (by decide) ?_
          refine g_rinc F hI 25 (by decide) km_X5_109 ⟨Nat.le_of_ble_eq_true rfl, Nat.le_of_ble_eq_true rfl⟩ hl.1 (Nat.le_of_ble_eq_true rfl) ⟨Nat.zero_le _, Nat.zero_le _⟩ dX5_followPunches_102 (fun H locs hI => ?_)
          refine lv_aload_n hx hb dX5_followPunches_105 rfl (lv_at hl 0 rfl) ?_
          refine lv_iload_n hx hb dX5_followPunches_106 rfl (lv_at hl 2 rfl) ?_
          refine lv_iload_n hx hb dX5_followPunches_107 rfl (lv_at hl 3 rfl) ?_
          obtain ⟨r_108, e_108, h⟩ := gBind_in h
          refine g_callVi (E' := gE a cI (ginc (gput s_38 23 ((x1 * 6) + v3_38) (f_X3_punchedMinute s_38 x1 v4_38)) 25 x1 1)) (k0 := 8) (As := [.int (f_X3_klassOf σ x1), .int v3_38]) (rest := []) F hI (c_X5_nextToCount l D a cI F.2.2 N (ginc (gput s_38 23 ((x1 * 6) + v3_38) (f_X3_punchedMinute s_38 x1 v4_38)) 25 x1 1) (f_X3_klassOf σ x1) v3_38 r_108 e_108) kb_X5_nextToCount ki_X5_nextToCount ks_X5_nextToCount km_X5_92 ⟨Nat.le_of_ble_eq_true rfl, Nat.le_of_ble_eq_true rfl, rfl, rfl⟩ (by decide) gE_8 rfl hl.1 rfl (Nat.le_of_ble_eq_true rfl) ⟨Nat.zero_le _, Nat.zero_le _⟩ dX5_followPunches_108 (fun H locs hI => ?_)
          refine lv_istore_n (lv' := [(3, .int r_108), (0, .ref (a 8)), (1, .int x1), (2, .int (f_X3_klassOf σ x1)), (4, .int v4_38)]) hx hb dX5_followPunches_111 rfl hl (by decide) rfl (fun ls hl => ?_)
          exact J112 _ _ _ _ _ h hI (lv_sub hl [1, 2, 3, 0, 4] rfl)
  exact L38 _ _ _ _ _ _ _ h hI (lv_sub hl [3, 4, 2, 1, 0] rfl)
/-- Spurline$Results.isVoid(II)Z -/
def f_X5_isVoid (σ : gSt) (x1 x2 : Int32) : Int32 :=
  if f_X1_hasFailed σ (f_X2_controlAt σ x1 x2) = 0 then
    if f_X1_hasFailed σ (f_X2_controlAt σ x1 (x2 + 1)) = 0 then
      0
    else
      1
  else
    1
abbrev rmX5_isVoid : Room := { frames := 2, cells := 0, slots := 0, locals := 43 }
theorem kb_X5_isVoid : g_CB yX5_isVoid cX5_isVoid 3 (some .boolean) 2 := ⟨kc_X5_isVoid, kn_X5, by decide +kernel⟩
set_option maxRecDepth 100000 in
set_option maxHeartbeats 4000000 in
theorem c_X5_isVoid (l : Launch) (D : va_G) (a : Nat → Nat) (cI : ClassId) (hj : g_Inj 65 a) (σ : gSt) (x1 x2 : Int32) : Met l yX5_isVoid (Cond.code yX5_isVoid cX5_isVoid 3 (some .boolean) :: gW) rmX5_isVoid (g_Pc 65 D a (gE a cI σ) [(cI, .int)] [.ref (a 8), .int x1, .int x2]) (g_Qi 65 D a (gE a cI σ) (f_X5_isVoid σ x1 x2)) 0 0 (g_Own 65 a) := by
  generalize hh : f_X5_isVoid σ x1 x2 = out
  refine g_metz (by decide) hj (Nat.le_of_ble_eq_true rfl) ?_
  intro p e s m args below meth c Q ls F hl hI hq
  have hx := F.1.1
  have hb := F.1.2.1
  have hl : lv_has ls 3 [(0, .ref (a 8)), (1, .int x1), (2, .int x2)] := hl
  have h := hh
  unfold f_X5_isVoid at h
  refine lv_aload_n hx hb dX5_isVoid_0 rfl (lv_at hl 0 rfl) ?_
  refine g_get F hI (by decide) gE_8 rfl ku_X5 0 (by decide) kf_X5_32 rfl dX5_isVoid_1 ?_
  refine lv_aload_n hx hb dX5_isVoid_4 rfl (lv_at hl 0 rfl) ?_
  refine g_get F hI (by decide) gE_8 rfl ku_X5 1 (by decide) kf_X5_36 rfl dX5_isVoid_5 ?_
  refine lv_iload_n hx hb dX5_isVoid_8 rfl (lv_at hl 1 rfl) ?_
  refine lv_iload_n hx hb dX5_isVoid_9 rfl (lv_at hl 2 rfl) ?_
  refine g_callVi (E' := gE a cI σ) (k0 := 5) (As := [.int x1, .int x2]) (rest := [.ref (a 4)]) F hI (c_X2_controlAt l D a cI F.2.2 σ x1 x2) kb_X2_controlAt ki_X2_controlAt ks_X2_controlAt km_X5_101 ⟨Nat.le_of_ble_eq_true rfl, Nat.le_of_ble_eq_true rfl, rfl, rfl⟩ (by decide) gE_5 rfl hl.1 rfl (Nat.le_of_ble_eq_true rfl) ⟨Nat.zero_le _, Nat.zero_le _⟩ dX5_isVoid_10 (fun H locs hI => ?_)
  refine g_callVi (E' := gE a cI σ) (k0 := 4) (As := [.int (f_X2_controlAt σ x1 x2)]) (rest := []) F hI (c_X1_hasFailed l D a cI F.2.2 σ (f_X2_controlAt σ x1 x2)) kb_X1_hasFailed ki_X1_hasFailed ks_X1_hasFailed km_X5_121 ⟨Nat.le_of_ble_eq_true rfl, Nat.le_of_ble_eq_true rfl, rfl, rfl⟩ (by decide) gE_4 rfl hl.1 rfl (Nat.le_of_ble_eq_true rfl) ⟨Nat.zero_le _, Nat.zero_le _⟩ dX5_isVoid_13 (fun H locs hI => ?_)
  refine lv_if_ne (tgt := 40) hx hb dX5_isVoid_16 (by decide) (fun c_16 => ?_) (fun c_16 => ?_)
  · have h := (if_neg c_16).symm.trans h
    refine lv_iconst (v := 1) hx hb dX5_isVoid_40 (by decide) ?_
    refine lv_goto (tgt := 45) hx hb dX5_isVoid_41 (by decide) ?_
    subst h
    exact hq _ _ _ _ _ (show (1 : Int32) &&& 1 = 1 from by decide) hI dX5_isVoid_45
  · have h := (if_pos c_16).symm.trans h
    refine lv_aload_n hx hb dX5_isVoid_19 rfl (lv_at hl 0 rfl) ?_
    refine g_get F hI (by decide) gE_8 rfl ku_X5 0 (by decide) kf_X5_32 rfl dX5_isVoid_20 ?_
    refine lv_aload_n hx hb dX5_isVoid_23 rfl (lv_at hl 0 rfl) ?_
    refine g_get F hI (by decide) gE_8 rfl ku_X5 1 (by decide) kf_X5_36 rfl dX5_isVoid_24 ?_
    refine lv_iload_n hx hb dX5_isVoid_27 rfl (lv_at hl 1 rfl) ?_
    refine lv_iload_n hx hb dX5_isVoid_28 rfl (lv_at hl 2 rfl) ?_
    refine lv_iconst (v := 1) hx hb dX5_isVoid_29 (by decide) ?_
    refine lv_iadd hx hb dX5_isVoid_30 ?_
    refine g_callVi (E' := gE a cI σ) (k0 := 5) (As := [.int x1, .int (x2 + 1)]) (rest := [.ref (a 4)]) F hI (c_X2_controlAt l D a cI F.2.2 σ x1 (x2 + 1)) kb_X2_controlAt ki_X2_controlAt ks_X2_controlAt km_X5_101 ⟨Nat.le_of_ble_eq_true rfl, Nat.le_of_ble_eq_true rfl, rfl, rfl⟩ (by decide) gE_5 rfl hl.1 rfl (Nat.le_of_ble_eq_true rfl) ⟨Nat.zero_le _, Nat.zero_le _⟩ dX5_isVoid_31 (fun H locs hI => ?_)
    refine g_callVi (E' := gE a cI σ) (k0 := 4) (As := [.int (f_X2_controlAt σ x1 (x2 + 1))]) (rest := []) F hI (c_X1_hasFailed l D a cI F.2.2 σ (f_X2_controlAt σ x1 (x2 + 1))) kb_X1_hasFailed ki_X1_hasFailed ks_X1_hasFailed km_X5_121 ⟨Nat.le_of_ble_eq_true rfl, Nat.le_of_ble_eq_true rfl, rfl, rfl⟩ (by decide) gE_4 rfl hl.1 rfl (Nat.le_of_ble_eq_true rfl) ⟨Nat.zero_le _, Nat.zero_le _⟩ dX5_isVoid_34 (fun H locs hI => ?_)
    refine lv_if_eq (tgt := 44) hx hb dX5_isVoid_37 (by decide) (fun c_37 => ?_) (fun c_37 => ?_)
    · have h := (if_pos c_37).symm.trans h
      refine lv_iconst (v := 0) hx hb dX5_isVoid_44 (by decide) ?_
      subst h
      exact hq _ _ _ _ _ (show (0 : Int32) &&& 1 = 0 from by decide) hI dX5_isVoid_45
    · have h := (if_neg c_37).symm.trans h
      refine lv_iconst (v := 1) hx hb dX5_isVoid_40 (by decide) ?_
      refine lv_goto (tgt := 45) hx hb dX5_isVoid_41 (by decide) ?_
      subst h
      exact hq _ _ _ _ _ (show (1 : Int32) &&& 1 = 1 from by decide) hI dX5_isVoid_45
/-- Spurline$Results.reckonSplits(I)V -/
def f_X5_reckonSplits (N : Nat) (σ : gSt) (x1 : Int32) : Option gSt :=
  gLoop3 (fun self14 (v3_14 : Int32) (v4_14 : Int32) (s_14 : gSt) =>
    if f_X2_legs s_14 (f_X3_klassOf σ x1) ≤ v4_14 then
      gJoin1 (fun (w0_157 : Int32) =>
          some (gput s_14 27 x1 w0_157)) (fun j157 =>
        if gget s_14 26 x1 = 1 then
          j157 v3_14
        else
          j157 (-1))
    else
      gJoin1 (fun (w0_87 : Int32) =>
          gJoin1 (fun (w0_109 : Int32) =>
              gJoin1 (fun (w0_127 : Int32) =>
                  self14 (v3_14 + w0_127) (v4_14 + 1) (gput s_14 24 ((x1 * 6) + v4_14) w0_109)) (fun j127 =>
                if w0_87 = 0 then
                  j127 0
                else
                  j127 ((gget s_14 23 (((x1 * 6) + v4_14) + 1)) - (gget s_14 23 ((x1 * 6) + v4_14))))) (fun j109 =>
            if w0_87 = 0 then
              j109 (-1)
            else
              j109 ((gget s_14 23 (((x1 * 6) + v4_14) + 1)) - (gget s_14 23 ((x1 * 6) + v4_14))))) (fun j87 =>
      gJoin0 (
          j87 0) (fun j86 =>
        if gget s_14 23 ((x1 * 6) + v4_14) = (-1) then
          j86
        else
          if gget s_14 23 (((x1 * 6) + v4_14) + 1) = (-1) then
            j86
          else
            if f_X5_isVoid s_14 (f_X3_klassOf σ x1) v4_14 = 0 then
              j87 1
            else
              j86))) N 0 0 σ
abbrev rmX5_reckonSplits : Room := { frames := 3, cells := 0, slots := 0, locals := 65 }
theorem kb_X5_reckonSplits : g_CB yX5_reckonSplits cX5_reckonSplits 9 none 1 := ⟨kc_X5_reckonSplits, kn_X5, by decide +kernel⟩
set_option maxRecDepth 100000 in
set_option maxHeartbeats 4000000 in
theorem c_X5_reckonSplits (l : Launch) (D : va_G) (a : Nat → Nat) (cI : ClassId) (hj : g_Inj 65 a) (N : Nat) (σ : gSt) (x1 : Int32) (out : gSt) (hh : f_X5_reckonSplits N σ x1 = some out) : Met l yX5_reckonSplits (Cond.code yX5_reckonSplits cX5_reckonSplits 9 none :: gW) rmX5_reckonSplits (g_Pc 65 D a (gE a cI σ) [(cI, .int)] [.ref (a 8), .int x1]) (g_Qv 65 D a (gE a cI out)) 0 0 (g_Own 65 a) := by
  refine g_metv (by decide) hj (Nat.le_of_ble_eq_true rfl) ?_
  intro p e s m args below meth c Q ls F hl hI hq
  have hx := F.1.1
  have hb := F.1.2.1
  have hl : lv_has ls 9 [(0, .ref (a 8)), (1, .int x1)] := hl
  have h := hh
  unfold f_X5_reckonSplits at h
  refine lv_aload_n hx hb dX5_reckonSplits_0 rfl (lv_at hl 0 rfl) ?_
  refine g_get F hI (by decide) gE_8 rfl ku_X5 2 (by decide) kf_X5_40 rfl dX5_reckonSplits_1 ?_
  refine lv_iload_n hx hb dX5_reckonSplits_4 rfl (lv_at hl 1 rfl) ?_
  refine g_callVi (E' := gE a cI σ) (k0 := 7) (As := [.int x1]) (rest := []) F hI (c_X3_klassOf l D a cI F.2.2 σ x1) kb_X3_klassOf ki_X3_klassOf ks_X3_klassOf km_X5_63 ⟨Nat.le_of_ble_eq_true rfl, Nat.le_of_ble_eq_true rfl, rfl, rfl⟩ (by decide) gE_7 rfl hl.1 rfl (Nat.le_of_ble_eq_true rfl) ⟨Nat.zero_le _, Nat.zero_le _⟩ dX5_reckonSplits_5 (fun H locs hI => ?_)
  refine lv_istore_n (lv' := [(2, .int (f_X3_klassOf σ x1)), (0, .ref (a 8)), (1, .int x1)]) hx hb dX5_reckonSplits_8 rfl hl (by decide) rfl (fun ls hl => ?_)
  refine lv_iconst (v := 0) hx hb dX5_reckonSplits_9 (by decide) ?_
  refine lv_istore_n (lv' := [(3, .int 0), (2, .int (f_X3_klassOf σ x1)), (0, .ref (a 8)), (1, .int x1)]) hx hb dX5_reckonSplits_10 rfl hl (by decide) rfl (fun ls hl => ?_)
  refine lv_iconst (v := 0) hx hb dX5_reckonSplits_11 (by decide) ?_
  refine lv_istore (lv' := [(4, .int 0), (3, .int 0), (2, .int (f_X3_klassOf σ x1)), (0, .ref (a 8)), (1, .int x1)]) hx hb dX5_reckonSplits_12 hl (by decide) rfl (fun ls hl => ?_)
  obtain ⟨lp14, hz14, hs14, h⟩ := gLoop3_in h
  have L14 : ∀ (n : Nat) (v3_14 : Int32) (v4_14 : Int32) (s_14 : gSt) (H : Heap) (locs : List Loc) (ls : Array Slot), lp14 n v3_14 v4_14 s_14 = some out → g_S 65 D a (gE a cI s_14) s.heap H locs → lv_has ls 9 [(0, .ref (a 8)), (1, .int x1), (2, .int (f_X3_klassOf σ x1)), (3, .int v3_14), (4, .int v4_14)] → W p l e rmX5_reckonSplits s m args below meth c H locs 0 0 Q (F0 m 14 ls []) := by
    intro n
    induction n with
    | zero => intro v3_14 v4_14 s_14 H locs ls h; rw [hz14] at h; cases h
    | succ n ih14 =>
      intro v3_14 v4_14 s_14 H locs ls h hI hl
      rw [hs14] at h
      refine lv_iload hx hb dX5_reckonSplits_14 (lv_at hl 4 rfl) ?_
      refine lv_aload_n hx hb dX5_reckonSplits_16 rfl (lv_at hl 0 rfl) ?_
      refine g_get F hI (by decide) gE_8 rfl ku_X5 1 (by decide) kf_X5_36 rfl dX5_reckonSplits_17 ?_
      refine lv_iload_n hx hb dX5_reckonSplits_20 rfl (lv_at hl 2 rfl) ?_
      refine g_callVi (E' := gE a cI s_14) (k0 := 5) (As := [.int (f_X3_klassOf σ x1)]) (rest := [.int v4_14]) F hI (c_X2_legs l D a cI F.2.2 s_14 (f_X3_klassOf σ x1)) kb_X2_legs ki_X2_legs ks_X2_legs km_X5_127 ⟨Nat.le_of_ble_eq_true rfl, Nat.le_of_ble_eq_true rfl, rfl, rfl⟩ (by decide) gE_5 rfl hl.1 rfl (Nat.le_of_ble_eq_true rfl) ⟨Nat.zero_le _, Nat.zero_le _⟩ dX5_reckonSplits_21 (fun H locs hI => ?_)
      refine lv_icmp_ge (tgt := 135) hx hb dX5_reckonSplits_24 (by decide) (fun c_24 => ?_) (fun c_24 => ?_)
      · have h := (if_pos c_24).symm.trans h
        refine lv_aload_n hx hb dX5_reckonSplits_135 rfl (lv_at hl 0 rfl) ?_
        refine g_get F hI (by decide) gE_8 rfl ku_X5 7 (by decide) kf_X5_29 rfl dX5_reckonSplits_136 ?_
        refine lv_iload_n hx hb dX5_reckonSplits_139 rfl (lv_at hl 1 rfl) ?_
        refine lv_aload_n hx hb dX5_reckonSplits_140 rfl (lv_at hl 0 rfl) ?_
        refine g_get F hI (by decide) gE_8 rfl ku_X5 6 (by decide) kf_X5_26 rfl dX5_reckonSplits_141 ?_
        refine lv_iload_n hx hb dX5_reckonSplits_144 rfl (lv_at hl 1 rfl) ?_
        refine g_rget F hI 26 (by decide) km_X5_59 ⟨Nat.le_of_ble_eq_true rfl, Nat.le_of_ble_eq_true rfl⟩ hl.1 (Nat.le_of_ble_eq_true rfl) ⟨Nat.zero_le _, Nat.zero_le _⟩ dX5_reckonSplits_145 (fun H locs hI => ?_)
        refine lv_iconst (v := 1) hx hb dX5_reckonSplits_148 (by decide) ?_
        obtain ⟨j157, hj157, h⟩ := gJoin1_in h
        have J157 : ∀ (w0_157 : Int32) (H : Heap) (locs : List Loc) (ls : Array Slot), j157 w0_157 = some out → g_S 65 D a (gE a cI s_14) s.heap H locs → lv_has ls 9 [] → W p l e rmX5_reckonSplits s m args below meth c H locs 0 0 Q (F0 m 157 ls [.int w0_157, .int x1, .ref (a 36)]) := by
          intro w0_157 H locs ls h hI hl
          rw [hj157] at h
          refine g_rput F hI 27 (by decide) km_X5_88 ⟨Nat.le_of_ble_eq_true rfl, Nat.le_of_ble_eq_true rfl⟩ hl.1 (Nat.le_of_ble_eq_true rfl) ⟨Nat.zero_le _, Nat.zero_le _⟩ dX5_reckonSplits_157 (fun H locs hI => ?_)
          have h := Option.some.inj h
          subst h
          exact hq _ _ _ _ hI dX5_reckonSplits_160
        refine lv_icmp_ne (tgt := 156) hx hb dX5_reckonSplits_149 (by decide) (fun c_149 => ?_) (fun c_149 => ?_)
        · have h := (if_neg c_149).symm.trans h
          refine lv_iconst (v := -1) hx hb dX5_reckonSplits_156 (by decide) ?_
          exact J157 _ _ _ _ h hI (lv_sub hl [] rfl)
        · have h := (if_pos c_149).symm.trans h
          refine lv_iload_n hx hb dX5_reckonSplits_152 rfl (lv_at hl 3 rfl) ?_
          refine lv_goto (tgt := 157) hx hb dX5_reckonSplits_153 (by decide) ?_
          exact J157 _ _ _ _ h hI (lv_sub hl [] rfl)
      · have h := (if_neg c_24).symm.trans h
        refine lv_iload_n hx hb dX5_reckonSplits_27 rfl (lv_at hl 1 rfl) ?_
        refine lv_bipush (v := 6) hx hb dX5_reckonSplits_28 (by decide) ?_
        refine lv_imul hx hb dX5_reckonSplits_30 ?_
        refine lv_iload hx hb dX5_reckonSplits_31 (lv_at hl 4 rfl) ?_
        refine lv_iadd hx hb dX5_reckonSplits_33 ?_
        refine lv_istore (lv' := [(5, .int ((x1 * 6) + v4_14)), (0, .ref (a 8)), (1, .int x1), (2, .int (f_X3_klassOf σ x1)), (3, .int v3_14), (4, .int v4_14)]) hx hb dX5_reckonSplits_34 hl (by decide) rfl (fun ls hl => ?_)
        refine lv_aload_n hx hb dX5_reckonSplits_36 rfl (lv_at hl 1 rfl) ?_
        refine g_get F hI (by decide) gE_8 rfl ku_X5 3 (by decide) kf_X5_14 rfl dX5_reckonSplits_37 ?_
        refine lv_iload hx hb dX5_reckonSplits_40 (lv_at hl 0 rfl) ?_
        refine g_rget F hI 23 (by decide) km_X5_59 ⟨Nat.le_of_ble_eq_true rfl, Nat.le_of_ble_eq_true rfl⟩ hl.1 (Nat.le_of_ble_eq_true rfl) ⟨Nat.zero_le _, Nat.zero_le _⟩ dX5_reckonSplits_42 (fun H locs hI => ?_)
        refine lv_istore (lv' := [(6, .int (gget s_14 23 ((x1 * 6) + v4_14))), (5, .int ((x1 * 6) + v4_14)), (0, .ref (a 8)), (1, .int x1), (2, .int (f_X3_klassOf σ x1)), (3, .int v3_14), (4, .int v4_14)]) hx hb dX5_reckonSplits_45 hl (by decide) rfl (fun ls hl => ?_)
        refine lv_aload_n hx hb dX5_reckonSplits_47 rfl (lv_at hl 2 rfl) ?_
        refine g_get F hI (by decide) gE_8 rfl ku_X5 3 (by decide) kf_X5_14 rfl dX5_reckonSplits_48 ?_
        refine lv_iload hx hb dX5_reckonSplits_51 (lv_at hl 1 rfl) ?_
        refine lv_iconst (v := 1) hx hb dX5_reckonSplits_53 (by decide) ?_
        refine lv_iadd hx hb dX5_reckonSplits_54 ?_
        refine g_rget F hI 23 (by decide) km_X5_59 ⟨Nat.le_of_ble_eq_true rfl, Nat.le_of_ble_eq_true rfl⟩ hl.1 (Nat.le_of_ble_eq_true rfl) ⟨Nat.zero_le _, Nat.zero_le _⟩ dX5_reckonSplits_55 (fun H locs hI => ?_)
        refine lv_istore (lv' := [(7, .int (gget s_14 23 (((x1 * 6) + v4_14) + 1))), (6, .int (gget s_14 23 ((x1 * 6) + v4_14))), (5, .int ((x1 * 6) + v4_14)), (0, .ref (a 8)), (1, .int x1), (2, .int (f_X3_klassOf σ x1)), (3, .int v3_14), (4, .int v4_14)]) hx hb dX5_reckonSplits_58 hl (by decide) rfl (fun ls hl => ?_)
        refine lv_iload hx hb dX5_reckonSplits_60 (lv_at hl 1 rfl) ?_
        refine lv_iconst (v := -1) hx hb dX5_reckonSplits_62 (by decide) ?_
        obtain ⟨j87, hj87, h⟩ := gJoin1_in h
        have J87 : ∀ (w0_87 : Int32) (H : Heap) (locs : List Loc) (ls : Array Slot), j87 w0_87 = some out → g_S 65 D a (gE a cI s_14) s.heap H locs → lv_has ls 9 [(0, .ref (a 8)), (1, .int x1), (2, .int (f_X3_klassOf σ x1)), (3, .int v3_14), (4, .int v4_14), (5, .int ((x1 * 6) + v4_14)), (6, .int (gget s_14 23 ((x1 * 6) + v4_14))), (7, .int (gget s_14 23 (((x1 * 6) + v4_14) + 1)))] → W p l e rmX5_reckonSplits s m args below meth c H locs 0 0 Q (F0 m 87 ls [.int w0_87]) := by
          intro w0_87 H locs ls h hI hl
          rw [hj87] at h
          refine lv_istore (lv' := [(8, .int w0_87), (0, .ref (a 8)), (1, .int x1), (2, .int (f_X3_klassOf σ x1)), (3, .int v3_14), (4, .int v4_14), (5, .int ((x1 * 6) + v4_14)), (6, .int (gget s_14 23 ((x1 * 6) + v4_14))), (7, .int (gget s_14 23 (((x1 * 6) + v4_14) + 1)))]) hx hb dX5_reckonSplits_87 hl (by decide) rfl (fun ls hl => ?_)
          refine lv_aload_n hx hb dX5_reckonSplits_89 rfl (lv_at hl 1 rfl) ?_
          refine g_get F hI (by decide) gE_8 rfl ku_X5 4 (by decide) kf_X5_20 rfl dX5_reckonSplits_90 ?_
          refine lv_iload hx hb dX5_reckonSplits_93 (lv_at hl 6 rfl) ?_
          refine lv_iload hx hb dX5_reckonSplits_95 (lv_at hl 0 rfl) ?_
          obtain ⟨j109, hj109, h⟩ := gJoin1_in h
          have J109 : ∀ (w0_109 : Int32) (H : Heap) (locs : List Loc) (ls : Array Slot), j109 w0_109 = some out → g_S 65 D a (gE a cI s_14) s.heap H locs → lv_has ls 9 [(0, .ref (a 8)), (1, .int x1), (2, .int (f_X3_klassOf σ x1)), (3, .int v3_14), (4, .int v4_14), (6, .int (gget s_14 23 ((x1 * 6) + v4_14))), (7, .int (gget s_14 23 (((x1 * 6) + v4_14) + 1))), (8, .int w0_87)] → W p l e rmX5_reckonSplits s m args below meth c H locs 0 0 Q (F0 m 109 ls [.int w0_109, .int ((x1 * 6) + v4_14), .ref (a 33)]) := by
            intro w0_109 H locs ls h hI hl
            rw [hj109] at h
            refine g_rput F hI 24 (by decide) km_X5_88 ⟨Nat.le_of_ble_eq_true rfl, Nat.le_of_ble_eq_true rfl⟩ hl.1 (Nat.le_of_ble_eq_true rfl) ⟨Nat.zero_le _, Nat.zero_le _⟩ dX5_reckonSplits_109 (fun H locs hI => ?_)
            refine lv_iload_n hx hb dX5_reckonSplits_112 rfl (lv_at hl 3 rfl) ?_
            refine lv_iload hx hb dX5_reckonSplits_113 (lv_at hl 7 rfl) ?_
            obtain ⟨j127, hj127, h⟩ := gJoin1_in h
            have J127 : ∀ (w0_127 : Int32) (H : Heap) (locs : List Loc) (ls : Array Slot), j127 w0_127 = some out → g_S 65 D a (gE a cI (gput s_14 24 ((x1 * 6) + v4_14) w0_109)) s.heap H locs → lv_has ls 9 [(0, .ref (a 8)), (1, .int x1), (2, .int (f_X3_klassOf σ x1)), (4, .int v4_14)] → W p l e rmX5_reckonSplits s m args below meth c H locs 0 0 Q (F0 m 127 ls [.int w0_127, .int v3_14]) := by
              intro w0_127 H locs ls h hI hl
              rw [hj127] at h
              refine lv_iadd hx hb dX5_reckonSplits_127 ?_
              refine lv_istore_n (lv' := [(3, .int (v3_14 + w0_127)), (0, .ref (a 8)), (1, .int x1), (2, .int (f_X3_klassOf σ x1)), (4, .int v4_14)]) hx hb dX5_reckonSplits_128 rfl hl (by decide) rfl (fun ls hl => ?_)
              refine lv_iinc (v := v4_14 + 1) (lv' := [(4, .int (v4_14 + 1)), (3, .int (v3_14 + w0_127)), (0, .ref (a 8)), (1, .int x1), (2, .int (f_X3_klassOf σ x1))]) hx hb dX5_reckonSplits_129 hl (k := 4) rfl rfl (by decide) rfl (fun ls hl => ?_)
              refine lv_goto (tgt := 14) hx hb dX5_reckonSplits_132 (by decide) ?_
              exact ih14 _ _ _ _ _ _ h hI (lv_sub hl [2, 3, 4, 1, 0] rfl)
            refine lv_if_eq (tgt := 126) hx hb dX5_reckonSplits_115 (by decide) (fun c_115 => ?_) (fun c_115 => ?_)
            · have h := (if_pos c_115).symm.trans h
              refine lv_iconst (v := 0) hx hb dX5_reckonSplits_126 (by decide) ?_
              exact J127 _ _ _ _ h hI (lv_sub hl [0, 1, 2, 4] rfl)
            · have h := (if_neg c_115).symm.trans h
              refine lv_iload hx hb dX5_reckonSplits_118 (lv_at hl 6 rfl) ?_
              refine lv_iload hx hb dX5_reckonSplits_120 (lv_at hl 5 rfl) ?_
              refine lv_isub hx hb dX5_reckonSplits_122 ?_
              refine lv_goto (tgt := 127) hx hb dX5_reckonSplits_123 (by decide) ?_
              exact J127 _ _ _ _ h hI (lv_sub hl [0, 1, 2, 4] rfl)
          refine lv_if_eq (tgt := 108) hx hb dX5_reckonSplits_97 (by decide) (fun c_97 => ?_) (fun c_97 => ?_)
          · have h := (if_pos c_97).symm.trans h
            refine lv_iconst (v := -1) hx hb dX5_reckonSplits_108 (by decide) ?_
            exact J109 _ _ _ _ h hI (lv_sub hl [1, 2, 3, 4, 5, 7, 8, 0] rfl)
          · have h := (if_neg c_97).symm.trans h
            refine lv_iload hx hb dX5_reckonSplits_100 (lv_at hl 8 rfl) ?_
            refine lv_iload hx hb dX5_reckonSplits_102 (lv_at hl 7 rfl) ?_
            refine lv_isub hx hb dX5_reckonSplits_104 ?_
            refine lv_goto (tgt := 109) hx hb dX5_reckonSplits_105 (by decide) ?_
            exact J109 _ _ _ _ h hI (lv_sub hl [1, 2, 3, 4, 5, 7, 8, 0] rfl)
        obtain ⟨j86, hj86, h⟩ := gJoin0_in h
        have J86 : ∀ (H : Heap) (locs : List Loc) (ls : Array Slot), j86  = some out → g_S 65 D a (gE a cI s_14) s.heap H locs → lv_has ls 9 [(0, .ref (a 8)), (1, .int x1), (2, .int (f_X3_klassOf σ x1)), (3, .int v3_14), (4, .int v4_14), (5, .int ((x1 * 6) + v4_14)), (6, .int (gget s_14 23 ((x1 * 6) + v4_14))), (7, .int (gget s_14 23 (((x1 * 6) + v4_14) + 1)))] → W p l e rmX5_reckonSplits s m args below meth c H locs 0 0 Q (F0 m 86 ls []) := by
          intro  H locs ls h hI hl
          rw [hj86] at h
          refine lv_iconst (v := 0) hx hb dX5_reckonSplits_86 (by decide) ?_
          exact J87 _ _ _ _ h hI (lv_sub hl [0, 1, 2, 3, 4, 5, 6, 7] rfl)
        refine lv_icmp_eq (tgt := 86) hx hb dX5_reckonSplits_63 (by decide) (fun c_63 => ?_) (fun c_63 => ?_)
        · have h := (if_pos c_63).symm.trans h
          exact J86 _ _ _ h hI (lv_sub hl [3, 4, 5, 6, 7, 2, 1, 0] rfl)
        · have h := (if_neg c_63).symm.trans h
          refine lv_iload hx hb dX5_reckonSplits_66 (lv_at hl 0 rfl) ?_
          refine lv_iconst (v := -1) hx hb dX5_reckonSplits_68 (by decide) ?_
          refine lv_icmp_eq (tgt := 86) hx hb dX5_reckonSplits_69 (by decide) (fun c_69 => ?_) (fun c_69 => ?_)
          · have h := (if_pos c_69).symm.trans h
            exact J86 _ _ _ h hI (lv_sub hl [3, 4, 5, 6, 7, 2, 1, 0] rfl)
          · have h := (if_neg c_69).symm.trans h
            refine lv_aload_n hx hb dX5_reckonSplits_72 rfl (lv_at hl 3 rfl) ?_
            refine lv_iload_n hx hb dX5_reckonSplits_73 rfl (lv_at hl 5 rfl) ?_
            refine lv_iload hx hb dX5_reckonSplits_74 (lv_at hl 7 rfl) ?_
            refine g_callVi (E' := gE a cI s_14) (k0 := 8) (As := [.int (f_X3_klassOf σ x1), .int v4_14]) (rest := []) F hI (c_X5_isVoid l D a cI F.2.2 s_14 (f_X3_klassOf σ x1) v4_14) kb_X5_isVoid ki_X5_isVoid ks_X5_isVoid km_X5_66 ⟨Nat.le_of_ble_eq_true rfl, Nat.le_of_ble_eq_true rfl, rfl, rfl⟩ (by decide) gE_8 rfl hl.1 rfl (Nat.le_of_ble_eq_true rfl) ⟨Nat.zero_le _, Nat.zero_le _⟩ dX5_reckonSplits_76 (fun H locs hI => ?_)
            refine lv_if_ne (tgt := 86) hx hb dX5_reckonSplits_79 (by decide) (fun c_79 => ?_) (fun c_79 => ?_)
            · have h := (if_neg c_79).symm.trans h
              exact J86 _ _ _ h hI (lv_sub hl [3, 4, 5, 6, 7, 2, 1, 0] rfl)
            · have h := (if_pos c_79).symm.trans h
              refine lv_iconst (v := 1) hx hb dX5_reckonSplits_82 (by decide) ?_
              refine lv_goto (tgt := 87) hx hb dX5_reckonSplits_83 (by decide) ?_
              exact J87 _ _ _ _ h hI (lv_sub hl [3, 4, 5, 6, 7, 2, 1, 0] rfl)
  exact L14 _ _ _ _ _ _ _ h hI (lv_sub hl [3, 4, 2, 1, 0] rfl)
/-- Spurline$Results.reckon()V -/
def f_X5_reckon (N : Nat) (σ : gSt) : Option gSt :=
  gLoop2 (fun self18 (v1_18 : Int32) (s_18 : gSt) =>
    if f_X3_count s_18 ≤ v1_18 then
      some s_18
    else
      (f_X5_followPunches N s_18 v1_18).bind (fun (s_31 : gSt) =>
      (f_X5_reckonSplits N s_31 v1_18).bind (fun (s_36 : gSt) =>
      self18 (v1_18 + 1) s_36))) N 0 (gfill (gfill σ 23 (-1)) 25 0)
abbrev rmX5_reckon : Room := { frames := 4, cells := 0, slots := 0, locals := 93 }
theorem kb_X5_reckon : g_CB yX5_reckon cX5_reckon 2 none 0 := ⟨kc_X5_reckon, kn_X5, by decide +kernel⟩
set_option maxRecDepth 100000 in
set_option maxHeartbeats 4000000 in
theorem c_X5_reckon (l : Launch) (D : va_G) (a : Nat → Nat) (cI : ClassId) (hj : g_Inj 65 a) (N : Nat) (σ : gSt) (out : gSt) (hh : f_X5_reckon N σ = some out) : Met l yX5_reckon (Cond.code yX5_reckon cX5_reckon 2 none :: gW) rmX5_reckon (g_Pc 65 D a (gE a cI σ) [(cI, .int)] [.ref (a 8)]) (g_Qv 65 D a (gE a cI out)) 0 0 (g_Own 65 a) := by
  refine g_metv (by decide) hj (Nat.le_of_ble_eq_true rfl) ?_
  intro p e s m args below meth c Q ls F hl hI hq
  have hx := F.1.1
  have hb := F.1.2.1
  have hl : lv_has ls 2 [(0, .ref (a 8))] := hl
  have h := hh
  unfold f_X5_reckon at h
  refine lv_aload_n hx hb dX5_reckon_0 rfl (lv_at hl 0 rfl) ?_
  refine g_get F hI (by decide) gE_8 rfl ku_X5 3 (by decide) kf_X5_14 rfl dX5_reckon_1 ?_
  refine lv_iconst (v := -1) hx hb dX5_reckon_4 (by decide) ?_
  refine g_rfill F hI 23 (by decide) km_X5_44 ⟨Nat.le_of_ble_eq_true rfl, Nat.le_of_ble_eq_true rfl⟩ hl.1 (Nat.le_of_ble_eq_true rfl) ⟨Nat.zero_le _, Nat.zero_le _⟩ dX5_reckon_5 (fun H locs hI => ?_)
  refine lv_aload_n hx hb dX5_reckon_8 rfl (lv_at hl 0 rfl) ?_
  refine g_get F hI (by decide) gE_8 rfl ku_X5 5 (by decide) kf_X5_23 rfl dX5_reckon_9 ?_
  refine lv_iconst (v := 0) hx hb dX5_reckon_12 (by decide) ?_
  refine g_rfill F hI 25 (by decide) km_X5_44 ⟨Nat.le_of_ble_eq_true rfl, Nat.le_of_ble_eq_true rfl⟩ hl.1 (Nat.le_of_ble_eq_true rfl) ⟨Nat.zero_le _, Nat.zero_le _⟩ dX5_reckon_13 (fun H locs hI => ?_)
  refine lv_iconst (v := 0) hx hb dX5_reckon_16 (by decide) ?_
  refine lv_istore_n (lv' := [(1, .int 0), (0, .ref (a 8))]) hx hb dX5_reckon_17 rfl hl (by decide) rfl (fun ls hl => ?_)
  obtain ⟨lp18, hz18, hs18, h⟩ := gLoop2_in h
  have L18 : ∀ (n : Nat) (v1_18 : Int32) (s_18 : gSt) (H : Heap) (locs : List Loc) (ls : Array Slot), lp18 n v1_18 s_18 = some out → g_S 65 D a (gE a cI s_18) s.heap H locs → lv_has ls 2 [(0, .ref (a 8)), (1, .int v1_18)] → W p l e rmX5_reckon s m args below meth c H locs 0 0 Q (F0 m 18 ls []) := by
    intro n
    induction n with
    | zero => intro v1_18 s_18 H locs ls h; rw [hz18] at h; cases h
    | succ n ih18 =>
      intro v1_18 s_18 H locs ls h hI hl
      rw [hs18] at h
      refine lv_iload_n hx hb dX5_reckon_18 rfl (lv_at hl 1 rfl) ?_
      refine lv_aload_n hx hb dX5_reckon_19 rfl (lv_at hl 0 rfl) ?_
      refine g_get F hI (by decide) gE_8 rfl ku_X5 2 (by decide) kf_X5_40 rfl dX5_reckon_20 ?_
      refine g_callVi (E' := gE a cI s_18) (k0 := 7) (As := []) (rest := [.int v1_18]) F hI (c_X3_count l D a cI F.2.2 s_18) kb_X3_count ki_X3_count ks_X3_count km_X5_47 ⟨Nat.le_of_ble_eq_true rfl, Nat.le_of_ble_eq_true rfl, rfl, rfl⟩ (by decide) gE_7 rfl hl.1 rfl (Nat.le_of_ble_eq_true rfl) ⟨Nat.zero_le _, Nat.zero_le _⟩ dX5_reckon_23 (fun H locs hI => ?_)
      refine lv_icmp_ge (tgt := 45) hx hb dX5_reckon_26 (by decide) (fun c_26 => ?_) (fun c_26 => ?_)
      · have h := (if_pos c_26).symm.trans h
        have h := Option.some.inj h
        subst h
        exact hq _ _ _ _ hI dX5_reckon_45
      · have h := (if_neg c_26).symm.trans h
        refine lv_aload_n hx hb dX5_reckon_29 rfl (lv_at hl 0 rfl) ?_
        refine lv_iload_n hx hb dX5_reckon_30 rfl (lv_at hl 1 rfl) ?_
        obtain ⟨s_31, e_31, h⟩ := gBind_in h
        refine g_callVv (E' := gE a cI s_31) (k0 := 8) (As := [.int v1_18]) (rest := []) F hI (c_X5_followPunches l D a cI F.2.2 N s_18 v1_18 s_31 e_31) kb_X5_followPunches ki_X5_followPunches ks_X5_followPunches km_X5_53 ⟨Nat.le_of_ble_eq_true rfl, Nat.le_of_ble_eq_true rfl, rfl, rfl⟩ (by decide) gE_8 rfl hl.1 rfl (Nat.le_of_ble_eq_true rfl) ⟨Nat.zero_le _, Nat.zero_le _⟩ dX5_reckon_31 (fun H locs hI => ?_)
        refine lv_aload_n hx hb dX5_reckon_34 rfl (lv_at hl 0 rfl) ?_
        refine lv_iload_n hx hb dX5_reckon_35 rfl (lv_at hl 1 rfl) ?_
        obtain ⟨s_36, e_36, h⟩ := gBind_in h
        refine g_callVv (E' := gE a cI s_36) (k0 := 8) (As := [.int v1_18]) (rest := []) F hI (c_X5_reckonSplits l D a cI F.2.2 N s_31 v1_18 s_36 e_36) kb_X5_reckonSplits ki_X5_reckonSplits ks_X5_reckonSplits km_X5_56 ⟨Nat.le_of_ble_eq_true rfl, Nat.le_of_ble_eq_true rfl, rfl, rfl⟩ (by decide) gE_8 rfl hl.1 rfl (Nat.le_of_ble_eq_true rfl) ⟨Nat.zero_le _, Nat.zero_le _⟩ dX5_reckon_36 (fun H locs hI => ?_)
        refine lv_iinc (v := v1_18 + 1) (lv' := [(1, .int (v1_18 + 1)), (0, .ref (a 8))]) hx hb dX5_reckon_39 hl (k := 1) rfl rfl (by decide) rfl (fun ls hl => ?_)
        refine lv_goto (tgt := 18) hx hb dX5_reckon_42 (by decide) ?_
        exact ih18 _ _ _ _ _ h hI (lv_sub hl [1, 0] rfl)
  exact L18 _ _ _ _ _ _ h hI (lv_sub hl [1, 0] rfl)
/-- Spurline$Results.countedPunches(I)I -/
def f_X5_countedPunches (σ : gSt) (x1 : Int32) : Int32 :=
  gget σ 25 x1
abbrev rmX5_countedPunches : Room := { frames := 1, cells := 0, slots := 0, locals := 21 }
theorem kb_X5_countedPunches : g_CB yX5_countedPunches cX5_countedPunches 2 (some .int) 1 := ⟨kc_X5_countedPunches, kn_X5, by decide +kernel⟩
set_option maxRecDepth 100000 in
set_option maxHeartbeats 4000000 in
theorem c_X5_countedPunches (l : Launch) (D : va_G) (a : Nat → Nat) (cI : ClassId) (hj : g_Inj 65 a) (σ : gSt) (x1 : Int32) : Met l yX5_countedPunches (Cond.code yX5_countedPunches cX5_countedPunches 2 (some .int) :: gW) rmX5_countedPunches (g_Pc 65 D a (gE a cI σ) [(cI, .int)] [.ref (a 8), .int x1]) (g_Qi 65 D a (gE a cI σ) (f_X5_countedPunches σ x1)) 0 0 (g_Own 65 a) := by
  generalize hh : f_X5_countedPunches σ x1 = out
  refine g_meti (by decide) hj (Nat.le_of_ble_eq_true rfl) ?_
  intro p e s m args below meth c Q ls F hl hI hq
  have hx := F.1.1
  have hb := F.1.2.1
  have hl : lv_has ls 2 [(0, .ref (a 8)), (1, .int x1)] := hl
  have h := hh
  unfold f_X5_countedPunches at h
  refine lv_aload_n hx hb dX5_countedPunches_0 rfl (lv_at hl 0 rfl) ?_
  refine g_get F hI (by decide) gE_8 rfl ku_X5 5 (by decide) kf_X5_23 rfl dX5_countedPunches_1 ?_
  refine lv_iload_n hx hb dX5_countedPunches_4 rfl (lv_at hl 1 rfl) ?_
  refine g_rget F hI 25 (by decide) km_X5_59 ⟨Nat.le_of_ble_eq_true rfl, Nat.le_of_ble_eq_true rfl⟩ hl.1 (Nat.le_of_ble_eq_true rfl) ⟨Nat.zero_le _, Nat.zero_le _⟩ dX5_countedPunches_5 (fun H locs hI => ?_)
  subst h
  exact hq _ _ _ _ hI dX5_countedPunches_8
/-- Spurline$Results.state(I)I -/
def f_X5_state (σ : gSt) (x1 : Int32) : Int32 :=
  gget σ 26 x1
abbrev rmX5_state : Room := { frames := 1, cells := 0, slots := 0, locals := 21 }
theorem kb_X5_state : g_CB yX5_state cX5_state 2 (some .int) 1 := ⟨kc_X5_state, kn_X5, by decide +kernel⟩
set_option maxRecDepth 100000 in
set_option maxHeartbeats 4000000 in
theorem c_X5_state (l : Launch) (D : va_G) (a : Nat → Nat) (cI : ClassId) (hj : g_Inj 65 a) (σ : gSt) (x1 : Int32) : Met l yX5_state (Cond.code yX5_state cX5_state 2 (some .int) :: gW) rmX5_state (g_Pc 65 D a (gE a cI σ) [(cI, .int)] [.ref (a 8), .int x1]) (g_Qi 65 D a (gE a cI σ) (f_X5_state σ x1)) 0 0 (g_Own 65 a) := by
  generalize hh : f_X5_state σ x1 = out
  refine g_meti (by decide) hj (Nat.le_of_ble_eq_true rfl) ?_
  intro p e s m args below meth c Q ls F hl hI hq
  have hx := F.1.1
  have hb := F.1.2.1
  have hl : lv_has ls 2 [(0, .ref (a 8)), (1, .int x1)] := hl
  have h := hh
  unfold f_X5_state at h
  refine lv_aload_n hx hb dX5_state_0 rfl (lv_at hl 0 rfl) ?_
  refine g_get F hI (by decide) gE_8 rfl ku_X5 6 (by decide) kf_X5_26 rfl dX5_state_1 ?_
  refine lv_iload_n hx hb dX5_state_4 rfl (lv_at hl 1 rfl) ?_
  refine g_rget F hI 26 (by decide) km_X5_59 ⟨Nat.le_of_ble_eq_true rfl, Nat.le_of_ble_eq_true rfl⟩ hl.1 (Nat.le_of_ble_eq_true rfl) ⟨Nat.zero_le _, Nat.zero_le _⟩ dX5_state_5 (fun H locs hI => ?_)
  subst h
  exact hq _ _ _ _ hI dX5_state_8
/-- Spurline$Results.totalMinutes(I)I -/
def f_X5_totalMinutes (σ : gSt) (x1 : Int32) : Int32 :=
  gget σ 27 x1
abbrev rmX5_totalMinutes : Room := { frames := 1, cells := 0, slots := 0, locals := 21 }
theorem kb_X5_totalMinutes : g_CB yX5_totalMinutes cX5_totalMinutes 2 (some .int) 1 := ⟨kc_X5_totalMinutes, kn_X5, by decide +kernel⟩
set_option maxRecDepth 100000 in
set_option maxHeartbeats 4000000 in
theorem c_X5_totalMinutes (l : Launch) (D : va_G) (a : Nat → Nat) (cI : ClassId) (hj : g_Inj 65 a) (σ : gSt) (x1 : Int32) : Met l yX5_totalMinutes (Cond.code yX5_totalMinutes cX5_totalMinutes 2 (some .int) :: gW) rmX5_totalMinutes (g_Pc 65 D a (gE a cI σ) [(cI, .int)] [.ref (a 8), .int x1]) (g_Qi 65 D a (gE a cI σ) (f_X5_totalMinutes σ x1)) 0 0 (g_Own 65 a) := by
  generalize hh : f_X5_totalMinutes σ x1 = out
  refine g_meti (by decide) hj (Nat.le_of_ble_eq_true rfl) ?_
  intro p e s m args below meth c Q ls F hl hI hq
  have hx := F.1.1
  have hb := F.1.2.1
  have hl : lv_has ls 2 [(0, .ref (a 8)), (1, .int x1)] := hl
  have h := hh
  unfold f_X5_totalMinutes at h
  refine lv_aload_n hx hb dX5_totalMinutes_0 rfl (lv_at hl 0 rfl) ?_
  refine g_get F hI (by decide) gE_8 rfl ku_X5 7 (by decide) kf_X5_29 rfl dX5_totalMinutes_1 ?_
  refine lv_iload_n hx hb dX5_totalMinutes_4 rfl (lv_at hl 1 rfl) ?_
  refine g_rget F hI 27 (by decide) km_X5_59 ⟨Nat.le_of_ble_eq_true rfl, Nat.le_of_ble_eq_true rfl⟩ hl.1 (Nat.le_of_ble_eq_true rfl) ⟨Nat.zero_le _, Nat.zero_le _⟩ dX5_totalMinutes_5 (fun H locs hI => ?_)
  subst h
  exact hq _ _ _ _ hI dX5_totalMinutes_8
/-- Spurline$Results.splitMinutes(II)I -/
def f_X5_splitMinutes (σ : gSt) (x1 x2 : Int32) : Int32 :=
  gget σ 24 ((x1 * 6) + x2)
abbrev rmX5_splitMinutes : Room := { frames := 1, cells := 0, slots := 0, locals := 21 }
theorem kb_X5_splitMinutes : g_CB yX5_splitMinutes cX5_splitMinutes 3 (some .int) 2 := ⟨kc_X5_splitMinutes, kn_X5, by decide +kernel⟩
set_option maxRecDepth 100000 in
set_option maxHeartbeats 4000000 in
theorem c_X5_splitMinutes (l : Launch) (D : va_G) (a : Nat → Nat) (cI : ClassId) (hj : g_Inj 65 a) (σ : gSt) (x1 x2 : Int32) : Met l yX5_splitMinutes (Cond.code yX5_splitMinutes cX5_splitMinutes 3 (some .int) :: gW) rmX5_splitMinutes (g_Pc 65 D a (gE a cI σ) [(cI, .int)] [.ref (a 8), .int x1, .int x2]) (g_Qi 65 D a (gE a cI σ) (f_X5_splitMinutes σ x1 x2)) 0 0 (g_Own 65 a) := by
  generalize hh : f_X5_splitMinutes σ x1 x2 = out
  refine g_meti (by decide) hj (Nat.le_of_ble_eq_true rfl) ?_
  intro p e s m args below meth c Q ls F hl hI hq
  have hx := F.1.1
  have hb := F.1.2.1
  have hl : lv_has ls 3 [(0, .ref (a 8)), (1, .int x1), (2, .int x2)] := hl
  have h := hh
  unfold f_X5_splitMinutes at h
  refine lv_aload_n hx hb dX5_splitMinutes_0 rfl (lv_at hl 0 rfl) ?_
  refine g_get F hI (by decide) gE_8 rfl ku_X5 4 (by decide) kf_X5_20 rfl dX5_splitMinutes_1 ?_
  refine lv_iload_n hx hb dX5_splitMinutes_4 rfl (lv_at hl 1 rfl) ?_
  refine lv_bipush (v := 6) hx hb dX5_splitMinutes_5 (by decide) ?_
  refine lv_imul hx hb dX5_splitMinutes_7 ?_
  refine lv_iload_n hx hb dX5_splitMinutes_8 rfl (lv_at hl 2 rfl) ?_
  refine lv_iadd hx hb dX5_splitMinutes_9 ?_
  refine g_rget F hI 24 (by decide) km_X5_59 ⟨Nat.le_of_ble_eq_true rfl, Nat.le_of_ble_eq_true rfl⟩ hl.1 (Nat.le_of_ble_eq_true rfl) ⟨Nat.zero_le _, Nat.zero_le _⟩ dX5_splitMinutes_10 (fun H locs hI => ?_)
  subst h
  exact hq _ _ _ _ hI dX5_splitMinutes_13
/-- Spurline$Results.place(I)I -/
def f_X5_place (N : Nat) (σ : gSt) (x1 : Int32) : Option Int32 :=
  if gget σ 26 x1 = 1 then
    gLoop2 (fun self18 (v2_18 : Int32) (v3_18 : Int32) =>
      if f_X3_count σ ≤ v3_18 then
        some v2_18
      else
        gJoin1 (fun (w0_65 : Int32) =>
            gJoin1 (fun (v2_94 : Int32) =>
                self18 v2_94 (v3_18 + 1)) (fun j94 =>
              if w0_65 = 0 then
                j94 v2_18
              else
                if gget σ 27 x1 ≤ gget σ 27 v3_18 then
                  j94 v2_18
                else
                  j94 (v2_18 + 1))) (fun j65 =>
        gJoin0 (
            j65 0) (fun j64 =>
          if gget σ 26 v3_18 = 1 then
            if f_X3_klassOf σ v3_18 = f_X3_klassOf σ x1 then
              j65 1
            else
              j64
          else
            j64))) N 1 0
  else
    some (-1)
abbrev rmX5_place : Room := { frames := 2, cells := 0, slots := 0, locals := 42 }
theorem kb_X5_place : g_CB yX5_place cX5_place 5 (some .int) 1 := ⟨kc_X5_place, kn_X5, by decide +kernel⟩
set_option maxRecDepth 100000 in
set_option maxHeartbeats 4000000 in
theorem c_X5_place (l : Launch) (D : va_G) (a : Nat → Nat) (cI : ClassId) (hj : g_Inj 65 a) (N : Nat) (σ : gSt) (x1 : Int32) (out : Int32) (hh : f_X5_place N σ x1 = some out) : Met l yX5_place (Cond.code yX5_place cX5_place 5 (some .int) :: gW) rmX5_place (g_Pc 65 D a (gE a cI σ) [(cI, .int)] [.ref (a 8), .int x1]) (g_Qi 65 D a (gE a cI σ) out) 0 0 (g_Own 65 a) := by
  refine g_meti (by decide) hj (Nat.le_of_ble_eq_true rfl) ?_
  intro p e s m args below meth c Q ls F hl hI hq
  have hx := F.1.1
  have hb := F.1.2.1
  have hl : lv_has ls 5 [(0, .ref (a 8)), (1, .int x1)] := hl
  have h := hh
  unfold f_X5_place at h
  refine lv_aload_n hx hb dX5_place_0 rfl (lv_at hl 0 rfl) ?_
  refine g_get F hI (by decide) gE_8 rfl ku_X5 6 (by decide) kf_X5_26 rfl dX5_place_1 ?_
  refine lv_iload_n hx hb dX5_place_4 rfl (lv_at hl 1 rfl) ?_
  refine g_rget F hI 26 (by decide) km_X5_59 ⟨Nat.le_of_ble_eq_true rfl, Nat.le_of_ble_eq_true rfl⟩ hl.1 (Nat.le_of_ble_eq_true rfl) ⟨Nat.zero_le _, Nat.zero_le _⟩ dX5_place_5 (fun H locs hI => ?_)
  refine lv_iconst (v := 1) hx hb dX5_place_8 (by decide) ?_
  refine lv_icmp_eq (tgt := 14) hx hb dX5_place_9 (by decide) (fun c_9 => ?_) (fun c_9 => ?_)
  · have h := (if_pos c_9).symm.trans h
    refine lv_iconst (v := 1) hx hb dX5_place_14 (by decide) ?_
    refine lv_istore_n (lv' := [(2, .int 1), (0, .ref (a 8)), (1, .int x1)]) hx hb dX5_place_15 rfl hl (by decide) rfl (fun ls hl => ?_)
    refine lv_iconst (v := 0) hx hb dX5_place_16 (by decide) ?_
    refine lv_istore_n (lv' := [(3, .int 0), (2, .int 1), (0, .ref (a 8)), (1, .int x1)]) hx hb dX5_place_17 rfl hl (by decide) rfl (fun ls hl => ?_)
    obtain ⟨lp18, hz18, hs18, h⟩ := gLoop2_in h
    have L18 : ∀ (n : Nat) (v2_18 : Int32) (v3_18 : Int32) (H : Heap) (locs : List Loc) (ls : Array Slot), lp18 n v2_18 v3_18 = some out → g_S 65 D a (gE a cI σ) s.heap H locs → lv_has ls 5 [(0, .ref (a 8)), (1, .int x1), (2, .int v2_18), (3, .int v3_18)] → W p l e rmX5_place s m args below meth c H locs 0 0 Q (F0 m 18 ls []) := by
      intro n
      induction n with
      | zero => intro v2_18 v3_18 H locs ls h; rw [hz18] at h; cases h
      | succ n ih18 =>
        intro v2_18 v3_18 H locs ls h hI hl
        rw [hs18] at h
        refine lv_iload_n hx hb dX5_place_18 rfl (lv_at hl 3 rfl) ?_
        refine lv_aload_n hx hb dX5_place_19 rfl (lv_at hl 0 rfl) ?_
        refine g_get F hI (by decide) gE_8 rfl ku_X5 2 (by decide) kf_X5_40 rfl dX5_place_20 ?_
        refine g_callVi (E' := gE a cI σ) (k0 := 7) (As := []) (rest := [.int v3_18]) F hI (c_X3_count l D a cI F.2.2 σ) kb_X3_count ki_X3_count ks_X3_count km_X5_47 ⟨Nat.le_of_ble_eq_true rfl, Nat.le_of_ble_eq_true rfl, rfl, rfl⟩ (by decide) gE_7 rfl hl.1 rfl (Nat.le_of_ble_eq_true rfl) ⟨Nat.zero_le _, Nat.zero_le _⟩ dX5_place_23 (fun H locs hI => ?_)
        refine lv_icmp_ge (tgt := 100) hx hb dX5_place_26 (by decide) (fun c_26 => ?_) (fun c_26 => ?_)
        · have h := (if_pos c_26).symm.trans h
          refine lv_iload_n hx hb dX5_place_100 rfl (lv_at hl 2 rfl) ?_
          have h := Option.some.inj h
          subst h
          exact hq _ _ _ _ hI dX5_place_101
        · have h := (if_neg c_26).symm.trans h
          refine lv_aload_n hx hb dX5_place_29 rfl (lv_at hl 0 rfl) ?_
          refine g_get F hI (by decide) gE_8 rfl ku_X5 6 (by decide) kf_X5_26 rfl dX5_place_30 ?_
          refine lv_iload_n hx hb dX5_place_33 rfl (lv_at hl 3 rfl) ?_
          refine g_rget F hI 26 (by decide) km_X5_59 ⟨Nat.le_of_ble_eq_true rfl, Nat.le_of_ble_eq_true rfl⟩ hl.1 (Nat.le_of_ble_eq_true rfl) ⟨Nat.zero_le _, Nat.zero_le _⟩ dX5_place_34 (fun H locs hI => ?_)
          refine lv_iconst (v := 1) hx hb dX5_place_37 (by decide) ?_
          obtain ⟨j65, hj65, h⟩ := gJoin1_in h
          have J65 : ∀ (w0_65 : Int32) (H : Heap) (locs : List Loc) (ls : Array Slot), j65 w0_65 = some out → g_S 65 D a (gE a cI σ) s.heap H locs → lv_has ls 5 [(0, .ref (a 8)), (1, .int x1), (2, .int v2_18), (3, .int v3_18)] → W p l e rmX5_place s m args below meth c H locs 0 0 Q (F0 m 65 ls [.int w0_65]) := by
            intro w0_65 H locs ls h hI hl
            rw [hj65] at h
            refine lv_istore (lv' := [(4, .int w0_65), (0, .ref (a 8)), (1, .int x1), (2, .int v2_18), (3, .int v3_18)]) hx hb dX5_place_65 hl (by decide) rfl (fun ls hl => ?_)
            refine lv_iload hx hb dX5_place_67 (lv_at hl 0 rfl) ?_
            obtain ⟨j94, hj94, h⟩ := gJoin1_in h
            have J94 : ∀ (v2_94 : Int32) (H : Heap) (locs : List Loc) (ls : Array Slot), j94 v2_94 = some out → g_S 65 D a (gE a cI σ) s.heap H locs → lv_has ls 5 [(0, .ref (a 8)), (1, .int x1), (2, .int v2_94), (3, .int v3_18)] → W p l e rmX5_place s m args below meth c H locs 0 0 Q (F0 m 94 ls []) := by
              intro v2_94 H locs ls h hI hl
              rw [hj94] at h
              refine lv_iinc (v := v3_18 + 1) (lv' := [(3, .int (v3_18 + 1)), (0, .ref (a 8)), (1, .int x1), (2, .int v2_94)]) hx hb dX5_place_94 hl (k := 3) rfl rfl (by decide) rfl (fun ls hl => ?_)
              refine lv_goto (tgt := 18) hx hb dX5_place_97 (by decide) ?_
              exact ih18 _ _ _ _ _ h hI (lv_sub hl [1, 2, 3, 0] rfl)
            refine lv_if_eq (tgt := 94) hx hb dX5_place_69 (by decide) (fun c_69 => ?_) (fun c_69 => ?_)
            · have h := (if_pos c_69).symm.trans h
              exact J94 _ _ _ _ h hI (lv_sub hl [1, 2, 3, 4] rfl)
            · have h := (if_neg c_69).symm.trans h
              refine lv_aload_n hx hb dX5_place_72 rfl (lv_at hl 1 rfl) ?_
              refine g_get F hI (by decide) gE_8 rfl ku_X5 7 (by decide) kf_X5_29 rfl dX5_place_73 ?_
              refine lv_iload_n hx hb dX5_place_76 rfl (lv_at hl 4 rfl) ?_
              refine g_rget F hI 27 (by decide) km_X5_59 ⟨Nat.le_of_ble_eq_true rfl, Nat.le_of_ble_eq_true rfl⟩ hl.1 (Nat.le_of_ble_eq_true rfl) ⟨Nat.zero_le _, Nat.zero_le _⟩ dX5_place_77 (fun H locs hI => ?_)
              refine lv_aload_n hx hb dX5_place_80 rfl (lv_at hl 1 rfl) ?_
              refine g_get F hI (by decide) gE_8 rfl ku_X5 7 (by decide) kf_X5_29 rfl dX5_place_81 ?_
              refine lv_iload_n hx hb dX5_place_84 rfl (lv_at hl 2 rfl) ?_
              refine g_rget F hI 27 (by decide) km_X5_59 ⟨Nat.le_of_ble_eq_true rfl, Nat.le_of_ble_eq_true rfl⟩ hl.1 (Nat.le_of_ble_eq_true rfl) ⟨Nat.zero_le _, Nat.zero_le _⟩ dX5_place_85 (fun H locs hI => ?_)
              refine lv_icmp_ge (tgt := 94) hx hb dX5_place_88 (by decide) (fun c_88 => ?_) (fun c_88 => ?_)
              · have h := (if_pos c_88).symm.trans h
                exact J94 _ _ _ _ h hI (lv_sub hl [1, 2, 3, 4] rfl)
              · have h := (if_neg c_88).symm.trans h
                refine lv_iinc (v := v2_18 + 1) (lv' := [(2, .int (v2_18 + 1)), (4, .int w0_65), (0, .ref (a 8)), (1, .int x1), (3, .int v3_18)]) hx hb dX5_place_91 hl (k := 3) rfl rfl (by decide) rfl (fun ls hl => ?_)
                exact J94 _ _ _ _ h hI (lv_sub hl [2, 3, 0, 4] rfl)
          obtain ⟨j64, hj64, h⟩ := gJoin0_in h
          have J64 : ∀ (H : Heap) (locs : List Loc) (ls : Array Slot), j64  = some out → g_S 65 D a (gE a cI σ) s.heap H locs → lv_has ls 5 [(0, .ref (a 8)), (1, .int x1), (2, .int v2_18), (3, .int v3_18)] → W p l e rmX5_place s m args below meth c H locs 0 0 Q (F0 m 64 ls []) := by
            intro  H locs ls h hI hl
            rw [hj64] at h
            refine lv_iconst (v := 0) hx hb dX5_place_64 (by decide) ?_
            exact J65 _ _ _ _ h hI (lv_sub hl [0, 1, 2, 3] rfl)
          refine lv_icmp_ne (tgt := 64) hx hb dX5_place_38 (by decide) (fun c_38 => ?_) (fun c_38 => ?_)
          · have h := (if_neg c_38).symm.trans h
            exact J64 _ _ _ h hI (lv_sub hl [0, 1, 2, 3] rfl)
          · have h := (if_pos c_38).symm.trans h
            refine lv_aload_n hx hb dX5_place_41 rfl (lv_at hl 0 rfl) ?_
            refine g_get F hI (by decide) gE_8 rfl ku_X5 2 (by decide) kf_X5_40 rfl dX5_place_42 ?_
            refine lv_iload_n hx hb dX5_place_45 rfl (lv_at hl 3 rfl) ?_
            refine g_callVi (E' := gE a cI σ) (k0 := 7) (As := [.int v3_18]) (rest := []) F hI (c_X3_klassOf l D a cI F.2.2 σ v3_18) kb_X3_klassOf ki_X3_klassOf ks_X3_klassOf km_X5_63 ⟨Nat.le_of_ble_eq_true rfl, Nat.le_of_ble_eq_true rfl, rfl, rfl⟩ (by decide) gE_7 rfl hl.1 rfl (Nat.le_of_ble_eq_true rfl) ⟨Nat.zero_le _, Nat.zero_le _⟩ dX5_place_46 (fun H locs hI => ?_)
            refine lv_aload_n hx hb dX5_place_49 rfl (lv_at hl 0 rfl) ?_
            refine g_get F hI (by decide) gE_8 rfl ku_X5 2 (by decide) kf_X5_40 rfl dX5_place_50 ?_
            refine lv_iload_n hx hb dX5_place_53 rfl (lv_at hl 1 rfl) ?_
            refine g_callVi (E' := gE a cI σ) (k0 := 7) (As := [.int x1]) (rest := [.int (f_X3_klassOf σ v3_18)]) F hI (c_X3_klassOf l D a cI F.2.2 σ x1) kb_X3_klassOf ki_X3_klassOf ks_X3_klassOf km_X5_63 ⟨Nat.le_of_ble_eq_true rfl, Nat.le_of_ble_eq_true rfl, rfl, rfl⟩ (by decide) gE_7 rfl hl.1 rfl (Nat.le_of_ble_eq_true rfl) ⟨Nat.zero_le _, Nat.zero_le _⟩ dX5_place_54 (fun H locs hI => ?_)
            refine lv_icmp_ne (tgt := 64) hx hb dX5_place_57 (by decide) (fun c_57 => ?_) (fun c_57 => ?_)
            · have h := (if_neg c_57).symm.trans h
              exact J64 _ _ _ h hI (lv_sub hl [0, 1, 2, 3] rfl)
            · have h := (if_pos c_57).symm.trans h
              refine lv_iconst (v := 1) hx hb dX5_place_60 (by decide) ?_
              refine lv_goto (tgt := 65) hx hb dX5_place_61 (by decide) ?_
              exact J65 _ _ _ _ h hI (lv_sub hl [0, 1, 2, 3] rfl)
    exact L18 _ _ _ _ _ _ h hI (lv_sub hl [2, 3, 1, 0] rfl)
  · have h := (if_neg c_9).symm.trans h
    refine lv_iconst (v := -1) hx hb dX5_place_12 (by decide) ?_
    have h := Option.some.inj h
    subst h
    exact hq _ _ _ _ hI dX5_place_13
/-- Spurline$Results.splitBetween(III)I -/
def f_X5_splitBetween (N : Nat) (σ : gSt) (x1 x2 x3 : Int32) : Option Int32 :=
  gLoop1 (fun self13 (v5_13 : Int32) =>
    if f_X2_legs σ (f_X3_klassOf σ x1) ≤ v5_13 then
      some (-1)
    else
      gJoin0 (
          self13 (v5_13 + 1)) (fun j67 =>
        if f_X2_controlAt σ (f_X3_klassOf σ x1) v5_13 = x2 then
          if f_X2_controlAt σ (f_X3_klassOf σ x1) (v5_13 + 1) = x3 then
            some (f_X5_splitMinutes σ x1 v5_13)
          else
            j67
        else
          j67)) N 0
abbrev rmX5_splitBetween : Room := { frames := 2, cells := 0, slots := 0, locals := 43 }
theorem kb_X5_splitBetween : g_CB yX5_splitBetween cX5_splitBetween 6 (some .int) 3 := ⟨kc_X5_splitBetween, kn_X5, by decide +kernel⟩
set_option maxRecDepth 100000 in
set_option maxHeartbeats 4000000 in
theorem c_X5_splitBetween (l : Launch) (D : va_G) (a : Nat → Nat) (cI : ClassId) (hj : g_Inj 65 a) (N : Nat) (σ : gSt) (x1 x2 x3 : Int32) (out : Int32) (hh : f_X5_splitBetween N σ x1 x2 x3 = some out) : Met l yX5_splitBetween (Cond.code yX5_splitBetween cX5_splitBetween 6 (some .int) :: gW) rmX5_splitBetween (g_Pc 65 D a (gE a cI σ) [(cI, .int)] [.ref (a 8), .int x1, .int x2, .int x3]) (g_Qi 65 D a (gE a cI σ) out) 0 0 (g_Own 65 a) := by
  refine g_meti (by decide) hj (Nat.le_of_ble_eq_true rfl) ?_
  intro p e s m args below meth c Q ls F hl hI hq
  have hx := F.1.1
  have hb := F.1.2.1
  have hl : lv_has ls 6 [(0, .ref (a 8)), (1, .int x1), (2, .int x2), (3, .int x3)] := hl
  have h := hh
  unfold f_X5_splitBetween at h
  refine lv_aload_n hx hb dX5_splitBetween_0 rfl (lv_at hl 0 rfl) ?_
  refine g_get F hI (by decide) gE_8 rfl ku_X5 2 (by decide) kf_X5_40 rfl dX5_splitBetween_1 ?_
  refine lv_iload_n hx hb dX5_splitBetween_4 rfl (lv_at hl 1 rfl) ?_
  refine g_callVi (E' := gE a cI σ) (k0 := 7) (As := [.int x1]) (rest := []) F hI (c_X3_klassOf l D a cI F.2.2 σ x1) kb_X3_klassOf ki_X3_klassOf ks_X3_klassOf km_X5_63 ⟨Nat.le_of_ble_eq_true rfl, Nat.le_of_ble_eq_true rfl, rfl, rfl⟩ (by decide) gE_7 rfl hl.1 rfl (Nat.le_of_ble_eq_true rfl) ⟨Nat.zero_le _, Nat.zero_le _⟩ dX5_splitBetween_5 (fun H locs hI => ?_)
  refine lv_istore (lv' := [(4, .int (f_X3_klassOf σ x1)), (0, .ref (a 8)), (1, .int x1), (2, .int x2), (3, .int x3)]) hx hb dX5_splitBetween_8 hl (by decide) rfl (fun ls hl => ?_)
  refine lv_iconst (v := 0) hx hb dX5_splitBetween_10 (by decide) ?_
  refine lv_istore (lv' := [(5, .int 0), (4, .int (f_X3_klassOf σ x1)), (0, .ref (a 8)), (1, .int x1), (2, .int x2), (3, .int x3)]) hx hb dX5_splitBetween_11 hl (by decide) rfl (fun ls hl => ?_)
  obtain ⟨lp13, hz13, hs13, h⟩ := gLoop1_in h
  have L13 : ∀ (n : Nat) (v5_13 : Int32) (H : Heap) (locs : List Loc) (ls : Array Slot), lp13 n v5_13 = some out → g_S 65 D a (gE a cI σ) s.heap H locs → lv_has ls 6 [(0, .ref (a 8)), (1, .int x1), (2, .int x2), (3, .int x3), (4, .int (f_X3_klassOf σ x1)), (5, .int v5_13)] → W p l e rmX5_splitBetween s m args below meth c H locs 0 0 Q (F0 m 13 ls []) := by
    intro n
    induction n with
    | zero => intro v5_13 H locs ls h; rw [hz13] at h; cases h
    | succ n ih13 =>
      intro v5_13 H locs ls h hI hl
      rw [hs13] at h
      refine lv_iload hx hb dX5_splitBetween_13 (lv_at hl 5 rfl) ?_
      refine lv_aload_n hx hb dX5_splitBetween_15 rfl (lv_at hl 0 rfl) ?_
      refine g_get F hI (by decide) gE_8 rfl ku_X5 1 (by decide) kf_X5_36 rfl dX5_splitBetween_16 ?_
      refine lv_iload hx hb dX5_splitBetween_19 (lv_at hl 4 rfl) ?_
      refine g_callVi (E' := gE a cI σ) (k0 := 5) (As := [.int (f_X3_klassOf σ x1)]) (rest := [.int v5_13]) F hI (c_X2_legs l D a cI F.2.2 σ (f_X3_klassOf σ x1)) kb_X2_legs ki_X2_legs ks_X2_legs km_X5_127 ⟨Nat.le_of_ble_eq_true rfl, Nat.le_of_ble_eq_true rfl, rfl, rfl⟩ (by decide) gE_5 rfl hl.1 rfl (Nat.le_of_ble_eq_true rfl) ⟨Nat.zero_le _, Nat.zero_le _⟩ dX5_splitBetween_21 (fun H locs hI => ?_)
      refine lv_icmp_ge (tgt := 73) hx hb dX5_splitBetween_24 (by decide) (fun c_24 => ?_) (fun c_24 => ?_)
      · have h := (if_pos c_24).symm.trans h
        refine lv_iconst (v := -1) hx hb dX5_splitBetween_73 (by decide) ?_
        have h := Option.some.inj h
        subst h
        exact hq _ _ _ _ hI dX5_splitBetween_74
      · have h := (if_neg c_24).symm.trans h
        refine lv_aload_n hx hb dX5_splitBetween_27 rfl (lv_at hl 0 rfl) ?_
        refine g_get F hI (by decide) gE_8 rfl ku_X5 1 (by decide) kf_X5_36 rfl dX5_splitBetween_28 ?_
        refine lv_iload hx hb dX5_splitBetween_31 (lv_at hl 4 rfl) ?_
        refine lv_iload hx hb dX5_splitBetween_33 (lv_at hl 5 rfl) ?_
        refine g_callVi (E' := gE a cI σ) (k0 := 5) (As := [.int (f_X3_klassOf σ x1), .int v5_13]) (rest := []) F hI (c_X2_controlAt l D a cI F.2.2 σ (f_X3_klassOf σ x1) v5_13) kb_X2_controlAt ki_X2_controlAt ks_X2_controlAt km_X5_101 ⟨Nat.le_of_ble_eq_true rfl, Nat.le_of_ble_eq_true rfl, rfl, rfl⟩ (by decide) gE_5 rfl hl.1 rfl (Nat.le_of_ble_eq_true rfl) ⟨Nat.zero_le _, Nat.zero_le _⟩ dX5_splitBetween_35 (fun H locs hI => ?_)
        refine lv_iload_n hx hb dX5_splitBetween_38 rfl (lv_at hl 2 rfl) ?_
        obtain ⟨j67, hj67, h⟩ := gJoin0_in h
        have J67 : ∀ (H : Heap) (locs : List Loc) (ls : Array Slot), j67  = some out → g_S 65 D a (gE a cI σ) s.heap H locs → lv_has ls 6 [(0, .ref (a 8)), (1, .int x1), (2, .int x2), (3, .int x3), (4, .int (f_X3_klassOf σ x1)), (5, .int v5_13)] → W p l e rmX5_splitBetween s m args below meth c H locs 0 0 Q (F0 m 67 ls []) := by
          intro  H locs ls h hI hl
          rw [hj67] at h
          refine lv_iinc (v := v5_13 + 1) (lv' := [(5, .int (v5_13 + 1)), (0, .ref (a 8)), (1, .int x1), (2, .int x2), (3, .int x3), (4, .int (f_X3_klassOf σ x1))]) hx hb dX5_splitBetween_67 hl (k := 5) rfl rfl (by decide) rfl (fun ls hl => ?_)
          refine lv_goto (tgt := 13) hx hb dX5_splitBetween_70 (by decide) ?_
          exact ih13 _ _ _ _ h hI (lv_sub hl [1, 2, 3, 4, 5, 0] rfl)
        refine lv_icmp_ne (tgt := 67) hx hb dX5_splitBetween_39 (by decide) (fun c_39 => ?_) (fun c_39 => ?_)
        · have h := (if_neg c_39).symm.trans h
          exact J67 _ _ _ h hI (lv_sub hl [0, 1, 2, 3, 4, 5] rfl)
        · have h := (if_pos c_39).symm.trans h
          refine lv_aload_n hx hb dX5_splitBetween_42 rfl (lv_at hl 0 rfl) ?_
          refine g_get F hI (by decide) gE_8 rfl ku_X5 1 (by decide) kf_X5_36 rfl dX5_splitBetween_43 ?_
          refine lv_iload hx hb dX5_splitBetween_46 (lv_at hl 4 rfl) ?_
          refine lv_iload hx hb dX5_splitBetween_48 (lv_at hl 5 rfl) ?_
          refine lv_iconst (v := 1) hx hb dX5_splitBetween_50 (by decide) ?_
          refine lv_iadd hx hb dX5_splitBetween_51 ?_
          refine g_callVi (E' := gE a cI σ) (k0 := 5) (As := [.int (f_X3_klassOf σ x1), .int (v5_13 + 1)]) (rest := []) F hI (c_X2_controlAt l D a cI F.2.2 σ (f_X3_klassOf σ x1) (v5_13 + 1)) kb_X2_controlAt ki_X2_controlAt ks_X2_controlAt km_X5_101 ⟨Nat.le_of_ble_eq_true rfl, Nat.le_of_ble_eq_true rfl, rfl, rfl⟩ (by decide) gE_5 rfl hl.1 rfl (Nat.le_of_ble_eq_true rfl) ⟨Nat.zero_le _, Nat.zero_le _⟩ dX5_splitBetween_52 (fun H locs hI => ?_)
          refine lv_iload_n hx hb dX5_splitBetween_55 rfl (lv_at hl 3 rfl) ?_
          refine lv_icmp_ne (tgt := 67) hx hb dX5_splitBetween_56 (by decide) (fun c_56 => ?_) (fun c_56 => ?_)
          · have h := (if_neg c_56).symm.trans h
            exact J67 _ _ _ h hI (lv_sub hl [0, 1, 2, 3, 4, 5] rfl)
          · have h := (if_pos c_56).symm.trans h
            refine lv_aload_n hx hb dX5_splitBetween_59 rfl (lv_at hl 0 rfl) ?_
            refine lv_iload_n hx hb dX5_splitBetween_60 rfl (lv_at hl 1 rfl) ?_
            refine lv_iload hx hb dX5_splitBetween_61 (lv_at hl 5 rfl) ?_
            refine g_callVi (E' := gE a cI σ) (k0 := 8) (As := [.int x1, .int v5_13]) (rest := []) F hI (c_X5_splitMinutes l D a cI F.2.2 σ x1 v5_13) kb_X5_splitMinutes ki_X5_splitMinutes ks_X5_splitMinutes km_X5_77 ⟨Nat.le_of_ble_eq_true rfl, Nat.le_of_ble_eq_true rfl, rfl, rfl⟩ (by decide) gE_8 rfl hl.1 rfl (Nat.le_of_ble_eq_true rfl) ⟨Nat.zero_le _, Nat.zero_le _⟩ dX5_splitBetween_63 (fun H locs hI => ?_)
            have h := Option.some.inj h
            subst h
            exact hq _ _ _ _ hI dX5_splitBetween_66
  exact L13 _ _ _ _ _ h hI (lv_sub hl [2, 3, 4, 5, 1, 0] rfl)
/-- Spurline$Results.bestSplit(II)I -/
def f_X5_bestSplit (N : Nat) (σ : gSt) (x1 x2 : Int32) : Option Int32 :=
  gLoop2 (fun self29 (v5_29 : Int32) (v6_29 : Int32) =>
    if f_X3_count σ ≤ v6_29 then
      some v5_29
    else
      gJoin1 (fun (w0_67 : Int32) =>
          gJoin1 (fun (v5_92 : Int32) =>
              self29 v5_92 (v6_29 + 1)) (fun j92 =>
            if w0_67 = (-1) then
              j92 v5_29
            else
              gJoin0 (
                  j92 w0_67) (fun j88 =>
                if v5_29 = (-1) then
                  j88
                else
                  if v5_29 ≤ w0_67 then
                    j92 v5_29
                  else
                    j88))) (fun j67 =>
        if gget σ 26 v6_29 = 1 then
          (f_X5_splitBetween N σ v6_29 (f_X2_controlAt σ x1 x2) (f_X2_controlAt σ x1 (x2 + 1))).bind (fun (r_60 : Int32) =>
          j67 r_60)
        else
          j67 (-1))) N (-1) 0
abbrev rmX5_bestSplit : Room := { frames := 3, cells := 0, slots := 0, locals := 68 }
theorem kb_X5_bestSplit : g_CB yX5_bestSplit cX5_bestSplit 8 (some .int) 2 := ⟨kc_X5_bestSplit, kn_X5, by decide +kernel⟩
set_option maxRecDepth 100000 in
set_option maxHeartbeats 4000000 in
theorem c_X5_bestSplit (l : Launch) (D : va_G) (a : Nat → Nat) (cI : ClassId) (hj : g_Inj 65 a) (N : Nat) (σ : gSt) (x1 x2 : Int32) (out : Int32) (hh : f_X5_bestSplit N σ x1 x2 = some out) : Met l yX5_bestSplit (Cond.code yX5_bestSplit cX5_bestSplit 8 (some .int) :: gW) rmX5_bestSplit (g_Pc 65 D a (gE a cI σ) [(cI, .int)] [.ref (a 8), .int x1, .int x2]) (g_Qi 65 D a (gE a cI σ) out) 0 0 (g_Own 65 a) := by
  refine g_meti (by decide) hj (Nat.le_of_ble_eq_true rfl) ?_
  intro p e s m args below meth c Q ls F hl hI hq
  have hx := F.1.1
  have hb := F.1.2.1
  have hl : lv_has ls 8 [(0, .ref (a 8)), (1, .int x1), (2, .int x2)] := hl
  have h := hh
  unfold f_X5_bestSplit at h
  refine lv_aload_n hx hb dX5_bestSplit_0 rfl (lv_at hl 0 rfl) ?_
  refine g_get F hI (by decide) gE_8 rfl ku_X5 1 (by decide) kf_X5_36 rfl dX5_bestSplit_1 ?_
  refine lv_iload_n hx hb dX5_bestSplit_4 rfl (lv_at hl 1 rfl) ?_
  refine lv_iload_n hx hb dX5_bestSplit_5 rfl (lv_at hl 2 rfl) ?_
  refine g_callVi (E' := gE a cI σ) (k0 := 5) (As := [.int x1, .int x2]) (rest := []) F hI (c_X2_controlAt l D a cI F.2.2 σ x1 x2) kb_X2_controlAt ki_X2_controlAt ks_X2_controlAt km_X5_101 ⟨Nat.le_of_ble_eq_true rfl, Nat.le_of_ble_eq_true rfl, rfl, rfl⟩ (by decide) gE_5 rfl hl.1 rfl (Nat.le_of_ble_eq_true rfl) ⟨Nat.zero_le _, Nat.zero_le _⟩ dX5_bestSplit_6 (fun H locs hI => ?_)
  refine lv_istore_n (lv' := [(3, .int (f_X2_controlAt σ x1 x2)), (0, .ref (a 8)), (1, .int x1), (2, .int x2)]) hx hb dX5_bestSplit_9 rfl hl (by decide) rfl (fun ls hl => ?_)
  refine lv_aload_n hx hb dX5_bestSplit_10 rfl (lv_at hl 1 rfl) ?_
  refine g_get F hI (by decide) gE_8 rfl ku_X5 1 (by decide) kf_X5_36 rfl dX5_bestSplit_11 ?_
  refine lv_iload_n hx hb dX5_bestSplit_14 rfl (lv_at hl 2 rfl) ?_
  refine lv_iload_n hx hb dX5_bestSplit_15 rfl (lv_at hl 3 rfl) ?_
  refine lv_iconst (v := 1) hx hb dX5_bestSplit_16 (by decide) ?_
  refine lv_iadd hx hb dX5_bestSplit_17 ?_
  refine g_callVi (E' := gE a cI σ) (k0 := 5) (As := [.int x1, .int (x2 + 1)]) (rest := []) F hI (c_X2_controlAt l D a cI F.2.2 σ x1 (x2 + 1)) kb_X2_controlAt ki_X2_controlAt ks_X2_controlAt km_X5_101 ⟨Nat.le_of_ble_eq_true rfl, Nat.le_of_ble_eq_true rfl, rfl, rfl⟩ (by decide) gE_5 rfl hl.1 rfl (Nat.le_of_ble_eq_true rfl) ⟨Nat.zero_le _, Nat.zero_le _⟩ dX5_bestSplit_18 (fun H locs hI => ?_)
  refine lv_istore (lv' := [(4, .int (f_X2_controlAt σ x1 (x2 + 1))), (3, .int (f_X2_controlAt σ x1 x2)), (0, .ref (a 8)), (1, .int x1), (2, .int x2)]) hx hb dX5_bestSplit_21 hl (by decide) rfl (fun ls hl => ?_)
  refine lv_iconst (v := -1) hx hb dX5_bestSplit_23 (by decide) ?_
  refine lv_istore (lv' := [(5, .int (-1)), (4, .int (f_X2_controlAt σ x1 (x2 + 1))), (3, .int (f_X2_controlAt σ x1 x2)), (0, .ref (a 8)), (1, .int x1), (2, .int x2)]) hx hb dX5_bestSplit_24 hl (by decide) rfl (fun ls hl => ?_)
  refine lv_iconst (v := 0) hx hb dX5_bestSplit_26 (by decide) ?_
  refine lv_istore (lv' := [(6, .int 0), (5, .int (-1)), (4, .int (f_X2_controlAt σ x1 (x2 + 1))), (3, .int (f_X2_controlAt σ x1 x2)), (0, .ref (a 8)), (1, .int x1), (2, .int x2)]) hx hb dX5_bestSplit_27 hl (by decide) rfl (fun ls hl => ?_)
  obtain ⟨lp29, hz29, hs29, h⟩ := gLoop2_in h
  have L29 : ∀ (n : Nat) (v5_29 : Int32) (v6_29 : Int32) (H : Heap) (locs : List Loc) (ls : Array Slot), lp29 n v5_29 v6_29 = some out → g_S 65 D a (gE a cI σ) s.heap H locs → lv_has ls 8 [(0, .ref (a 8)), (3, .int (f_X2_controlAt σ x1 x2)), (4, .int (f_X2_controlAt σ x1 (x2 + 1))), (5, .int v5_29), (6, .int v6_29)] → W p l e rmX5_bestSplit s m args below meth c H locs 0 0 Q (F0 m 29 ls []) := by
    intro n
    induction n with
    | zero => intro v5_29 v6_29 H locs ls h; rw [hz29] at h; cases h
    | succ n ih29 =>
      intro v5_29 v6_29 H locs ls h hI hl
      rw [hs29] at h
      refine lv_iload hx hb dX5_bestSplit_29 (lv_at hl 4 rfl) ?_
      refine lv_aload_n hx hb dX5_bestSplit_31 rfl (lv_at hl 0 rfl) ?_
      refine g_get F hI (by decide) gE_8 rfl ku_X5 2 (by decide) kf_X5_40 rfl dX5_bestSplit_32 ?_
      refine g_callVi (E' := gE a cI σ) (k0 := 7) (As := []) (rest := [.int v6_29]) F hI (c_X3_count l D a cI F.2.2 σ) kb_X3_count ki_X3_count ks_X3_count km_X5_47 ⟨Nat.le_of_ble_eq_true rfl, Nat.le_of_ble_eq_true rfl, rfl, rfl⟩ (by decide) gE_7 rfl hl.1 rfl (Nat.le_of_ble_eq_true rfl) ⟨Nat.zero_le _, Nat.zero_le _⟩ dX5_bestSplit_35 (fun H locs hI => ?_)
      refine lv_icmp_ge (tgt := 98) hx hb dX5_bestSplit_38 (by decide) (fun c_38 => ?_) (fun c_38 => ?_)
      · have h := (if_pos c_38).symm.trans h
        refine lv_iload hx hb dX5_bestSplit_98 (lv_at hl 3 rfl) ?_
        have h := Option.some.inj h
        subst h
        exact hq _ _ _ _ hI dX5_bestSplit_100
      · have h := (if_neg c_38).symm.trans h
        refine lv_aload_n hx hb dX5_bestSplit_41 rfl (lv_at hl 0 rfl) ?_
        refine g_get F hI (by decide) gE_8 rfl ku_X5 6 (by decide) kf_X5_26 rfl dX5_bestSplit_42 ?_
        refine lv_iload hx hb dX5_bestSplit_45 (lv_at hl 4 rfl) ?_
        refine g_rget F hI 26 (by decide) km_X5_59 ⟨Nat.le_of_ble_eq_true rfl, Nat.le_of_ble_eq_true rfl⟩ hl.1 (Nat.le_of_ble_eq_true rfl) ⟨Nat.zero_le _, Nat.zero_le _⟩ dX5_bestSplit_47 (fun H locs hI => ?_)
        refine lv_iconst (v := 1) hx hb dX5_bestSplit_50 (by decide) ?_
        obtain ⟨j67, hj67, h⟩ := gJoin1_in h
        have J67 : ∀ (w0_67 : Int32) (H : Heap) (locs : List Loc) (ls : Array Slot), j67 w0_67 = some out → g_S 65 D a (gE a cI σ) s.heap H locs → lv_has ls 8 [(0, .ref (a 8)), (3, .int (f_X2_controlAt σ x1 x2)), (4, .int (f_X2_controlAt σ x1 (x2 + 1))), (5, .int v5_29), (6, .int v6_29)] → W p l e rmX5_bestSplit s m args below meth c H locs 0 0 Q (F0 m 67 ls [.int w0_67]) := by
          intro w0_67 H locs ls h hI hl
          rw [hj67] at h
          refine lv_istore (lv' := [(7, .int w0_67), (0, .ref (a 8)), (3, .int (f_X2_controlAt σ x1 x2)), (4, .int (f_X2_controlAt σ x1 (x2 + 1))), (5, .int v5_29), (6, .int v6_29)]) hx hb dX5_bestSplit_67 hl (by decide) rfl (fun ls hl => ?_)
          refine lv_iload hx hb dX5_bestSplit_69 (lv_at hl 0 rfl) ?_
          refine lv_iconst (v := -1) hx hb dX5_bestSplit_71 (by decide) ?_
          obtain ⟨j92, hj92, h⟩ := gJoin1_in h
          have J92 : ∀ (v5_92 : Int32) (H : Heap) (locs : List Loc) (ls : Array Slot), j92 v5_92 = some out → g_S 65 D a (gE a cI σ) s.heap H locs → lv_has ls 8 [(0, .ref (a 8)), (3, .int (f_X2_controlAt σ x1 x2)), (4, .int (f_X2_controlAt σ x1 (x2 + 1))), (5, .int v5_92), (6, .int v6_29)] → W p l e rmX5_bestSplit s m args below meth c H locs 0 0 Q (F0 m 92 ls []) := by
            intro v5_92 H locs ls h hI hl
            rw [hj92] at h
            refine lv_iinc (v := v6_29 + 1) (lv' := [(6, .int (v6_29 + 1)), (0, .ref (a 8)), (3, .int (f_X2_controlAt σ x1 x2)), (4, .int (f_X2_controlAt σ x1 (x2 + 1))), (5, .int v5_92)]) hx hb dX5_bestSplit_92 hl (k := 4) rfl rfl (by decide) rfl (fun ls hl => ?_)
            refine lv_goto (tgt := 29) hx hb dX5_bestSplit_95 (by decide) ?_
            exact ih29 _ _ _ _ _ h hI (lv_sub hl [1, 2, 3, 4, 0] rfl)
          refine lv_icmp_eq (tgt := 92) hx hb dX5_bestSplit_72 (by decide) (fun c_72 => ?_) (fun c_72 => ?_)
          · have h := (if_pos c_72).symm.trans h
            exact J92 _ _ _ _ h hI (lv_sub hl [1, 2, 3, 4, 5] rfl)
          · have h := (if_neg c_72).symm.trans h
            refine lv_iload hx hb dX5_bestSplit_75 (lv_at hl 4 rfl) ?_
            refine lv_iconst (v := -1) hx hb dX5_bestSplit_77 (by decide) ?_
            obtain ⟨j88, hj88, h⟩ := gJoin0_in h
            have J88 : ∀ (H : Heap) (locs : List Loc) (ls : Array Slot), j88  = some out → g_S 65 D a (gE a cI σ) s.heap H locs → lv_has ls 8 [(0, .ref (a 8)), (3, .int (f_X2_controlAt σ x1 x2)), (4, .int (f_X2_controlAt σ x1 (x2 + 1))), (6, .int v6_29), (7, .int w0_67)] → W p l e rmX5_bestSplit s m args below meth c H locs 0 0 Q (F0 m 88 ls []) := by
              intro  H locs ls h hI hl
              rw [hj88] at h
              refine lv_iload hx hb dX5_bestSplit_88 (lv_at hl 4 rfl) ?_
              refine lv_istore (lv' := [(5, .int w0_67), (0, .ref (a 8)), (3, .int (f_X2_controlAt σ x1 x2)), (4, .int (f_X2_controlAt σ x1 (x2 + 1))), (6, .int v6_29), (7, .int w0_67)]) hx hb dX5_bestSplit_90 hl (by decide) rfl (fun ls hl => ?_)
              exact J92 _ _ _ _ h hI (lv_sub hl [1, 2, 3, 0, 4] rfl)
            refine lv_icmp_eq (tgt := 88) hx hb dX5_bestSplit_78 (by decide) (fun c_78 => ?_) (fun c_78 => ?_)
            · have h := (if_pos c_78).symm.trans h
              exact J88 _ _ _ h hI (lv_sub hl [1, 2, 3, 5, 0] rfl)
            · have h := (if_neg c_78).symm.trans h
              refine lv_iload hx hb dX5_bestSplit_81 (lv_at hl 0 rfl) ?_
              refine lv_iload hx hb dX5_bestSplit_83 (lv_at hl 4 rfl) ?_
              refine lv_icmp_ge (tgt := 92) hx hb dX5_bestSplit_85 (by decide) (fun c_85 => ?_) (fun c_85 => ?_)
              · have h := (if_pos c_85).symm.trans h
                exact J92 _ _ _ _ h hI (lv_sub hl [1, 2, 3, 4, 5] rfl)
              · have h := (if_neg c_85).symm.trans h
                exact J88 _ _ _ h hI (lv_sub hl [1, 2, 3, 5, 0] rfl)
        refine lv_icmp_ne (tgt := 66) hx hb dX5_bestSplit_51 (by decide) (fun c_51 => ?_) (fun c_51 => ?_)
        · have h := (if_neg c_51).symm.trans h
          refine lv_iconst (v := -1) hx hb dX5_bestSplit_66 (by decide) ?_
          exact J67 _ _ _ _ h hI (lv_sub hl [0, 1, 2, 3, 4] rfl)
        · have h := (if_pos c_51).symm.trans h
          refine lv_aload_n hx hb dX5_bestSplit_54 rfl (lv_at hl 0 rfl) ?_
          refine lv_iload hx hb dX5_bestSplit_55 (lv_at hl 4 rfl) ?_
          refine lv_iload_n hx hb dX5_bestSplit_57 rfl (lv_at hl 1 rfl) ?_
          refine lv_iload hx hb dX5_bestSplit_58 (lv_at hl 2 rfl) ?_
          obtain ⟨r_60, e_60, h⟩ := gBind_in h
          refine g_callVi (E' := gE a cI σ) (k0 := 8) (As := [.int v6_29, .int (f_X2_controlAt σ x1 x2), .int (f_X2_controlAt σ x1 (x2 + 1))]) (rest := []) F hI (c_X5_splitBetween l D a cI F.2.2 N σ v6_29 (f_X2_controlAt σ x1 x2) (f_X2_controlAt σ x1 (x2 + 1)) r_60 e_60) kb_X5_splitBetween ki_X5_splitBetween ks_X5_splitBetween km_X5_130 ⟨Nat.le_of_ble_eq_true rfl, Nat.le_of_ble_eq_true rfl, rfl, rfl⟩ (by decide) gE_8 rfl hl.1 rfl (Nat.le_of_ble_eq_true rfl) ⟨Nat.zero_le _, Nat.zero_le _⟩ dX5_bestSplit_60 (fun H locs hI => ?_)
          refine lv_goto (tgt := 67) hx hb dX5_bestSplit_63 (by decide) ?_
          exact J67 _ _ _ _ h hI (lv_sub hl [0, 1, 2, 3, 4] rfl)
  exact L29 _ _ _ _ _ _ h hI (lv_sub hl [4, 3, 2, 1, 0] rfl)
/-- Spurline$Results.pace(I)I -/
def f_X5_pace (N : Nat) (σ : gSt) (x1 : Int32) : Option Int32 :=
  gLoop2 (fun self14 (v3_14 : Int32) (v4_14 : Int32) =>
    if f_X2_legs σ (f_X3_klassOf σ x1) ≤ v4_14 then
      if v3_14 ≤ 0 then
        some 1000
      else
        if v3_14 = 0 then none else
        some ((1000 * (gget σ 27 x1)) / v3_14)
    else
      gJoin1 (fun (w0_53 : Int32) =>
          self14 (v3_14 + w0_53) (v4_14 + 1)) (fun j53 =>
        if f_X5_isVoid σ (f_X3_klassOf σ x1) v4_14 = 0 then
          (f_X5_bestSplit N σ (f_X3_klassOf σ x1) v4_14).bind (fun (r_47 : Int32) =>
          j53 (jmax 0 r_47))
        else
          j53 0)) N 0 0
abbrev rmX5_pace : Room := { frames := 4, cells := 0, slots := 0, locals := 95 }
theorem kb_X5_pace : g_CB yX5_pace cX5_pace 5 (some .int) 1 := ⟨kc_X5_pace, kn_X5, by decide +kernel⟩
set_option maxRecDepth 100000 in
set_option maxHeartbeats 4000000 in
theorem c_X5_pace (l : Launch) (D : va_G) (a : Nat → Nat) (cI : ClassId) (hj : g_Inj 65 a) (N : Nat) (σ : gSt) (x1 : Int32) (out : Int32) (hh : f_X5_pace N σ x1 = some out) : Met l yX5_pace (Cond.code yX5_pace cX5_pace 5 (some .int) :: gW) rmX5_pace (g_Pc 65 D a (gE a cI σ) [(cI, .int)] [.ref (a 8), .int x1]) (g_Qi 65 D a (gE a cI σ) out) 0 0 (g_Own 65 a) := by
  refine g_meti (by decide) hj (Nat.le_of_ble_eq_true rfl) ?_
  intro p e s m args below meth c Q ls F hl hI hq
  have hx := F.1.1
  have hb := F.1.2.1
  have hl : lv_has ls 5 [(0, .ref (a 8)), (1, .int x1)] := hl
  have h := hh
  unfold f_X5_pace at h
  refine lv_aload_n hx hb dX5_pace_0 rfl (lv_at hl 0 rfl) ?_
  refine g_get F hI (by decide) gE_8 rfl ku_X5 2 (by decide) kf_X5_40 rfl dX5_pace_1 ?_
  refine lv_iload_n hx hb dX5_pace_4 rfl (lv_at hl 1 rfl) ?_
  refine g_callVi (E' := gE a cI σ) (k0 := 7) (As := [.int x1]) (rest := []) F hI (c_X3_klassOf l D a cI F.2.2 σ x1) kb_X3_klassOf ki_X3_klassOf ks_X3_klassOf km_X5_63 ⟨Nat.le_of_ble_eq_true rfl, Nat.le_of_ble_eq_true rfl, rfl, rfl⟩ (by decide) gE_7 rfl hl.1 rfl (Nat.le_of_ble_eq_true rfl) ⟨Nat.zero_le _, Nat.zero_le _⟩ dX5_pace_5 (fun H locs hI => ?_)
  refine lv_istore_n (lv' := [(2, .int (f_X3_klassOf σ x1)), (0, .ref (a 8)), (1, .int x1)]) hx hb dX5_pace_8 rfl hl (by decide) rfl (fun ls hl => ?_)
  refine lv_iconst (v := 0) hx hb dX5_pace_9 (by decide) ?_
  refine lv_istore_n (lv' := [(3, .int 0), (2, .int (f_X3_klassOf σ x1)), (0, .ref (a 8)), (1, .int x1)]) hx hb dX5_pace_10 rfl hl (by decide) rfl (fun ls hl => ?_)
  refine lv_iconst (v := 0) hx hb dX5_pace_11 (by decide) ?_
  refine lv_istore (lv' := [(4, .int 0), (3, .int 0), (2, .int (f_X3_klassOf σ x1)), (0, .ref (a 8)), (1, .int x1)]) hx hb dX5_pace_12 hl (by decide) rfl (fun ls hl => ?_)
  obtain ⟨lp14, hz14, hs14, h⟩ := gLoop2_in h
  have L14 : ∀ (n : Nat) (v3_14 : Int32) (v4_14 : Int32) (H : Heap) (locs : List Loc) (ls : Array Slot), lp14 n v3_14 v4_14 = some out → g_S 65 D a (gE a cI σ) s.heap H locs → lv_has ls 5 [(0, .ref (a 8)), (1, .int x1), (2, .int (f_X3_klassOf σ x1)), (3, .int v3_14), (4, .int v4_14)] → W p l e rmX5_pace s m args below meth c H locs 0 0 Q (F0 m 14 ls []) := by
    intro n
    induction n with
    | zero => intro v3_14 v4_14 H locs ls h; rw [hz14] at h; cases h
    | succ n ih14 =>
      intro v3_14 v4_14 H locs ls h hI hl
      rw [hs14] at h
      refine lv_iload hx hb dX5_pace_14 (lv_at hl 4 rfl) ?_
      refine lv_aload_n hx hb dX5_pace_16 rfl (lv_at hl 0 rfl) ?_
      refine g_get F hI (by decide) gE_8 rfl ku_X5 1 (by decide) kf_X5_36 rfl dX5_pace_17 ?_
      refine lv_iload_n hx hb dX5_pace_20 rfl (lv_at hl 2 rfl) ?_
      refine g_callVi (E' := gE a cI σ) (k0 := 5) (As := [.int (f_X3_klassOf σ x1)]) (rest := [.int v4_14]) F hI (c_X2_legs l D a cI F.2.2 σ (f_X3_klassOf σ x1)) kb_X2_legs ki_X2_legs ks_X2_legs km_X5_127 ⟨Nat.le_of_ble_eq_true rfl, Nat.le_of_ble_eq_true rfl, rfl, rfl⟩ (by decide) gE_5 rfl hl.1 rfl (Nat.le_of_ble_eq_true rfl) ⟨Nat.zero_le _, Nat.zero_le _⟩ dX5_pace_21 (fun H locs hI => ?_)
      refine lv_icmp_ge (tgt := 61) hx hb dX5_pace_24 (by decide) (fun c_24 => ?_) (fun c_24 => ?_)
      · have h := (if_pos c_24).symm.trans h
        refine lv_iload_n hx hb dX5_pace_61 rfl (lv_at hl 3 rfl) ?_
        refine lv_if_le (tgt := 82) hx hb dX5_pace_62 (by decide) (fun c_62 => ?_) (fun c_62 => ?_)
        · have h := (if_pos c_62).symm.trans h
          refine lv_sipush (v := 1000) hx hb dX5_pace_82 (by decide) ?_
          have h := Option.some.inj h
          subst h
          exact hq _ _ _ _ hI dX5_pace_85
        · have h := (if_neg c_62).symm.trans h
          refine lv_sipush (v := 1000) hx hb dX5_pace_65 (by decide) ?_
          refine lv_aload_n hx hb dX5_pace_68 rfl (lv_at hl 0 rfl) ?_
          refine g_get F hI (by decide) gE_8 rfl ku_X5 7 (by decide) kf_X5_29 rfl dX5_pace_69 ?_
          refine lv_iload_n hx hb dX5_pace_72 rfl (lv_at hl 1 rfl) ?_
          refine g_rget F hI 27 (by decide) km_X5_59 ⟨Nat.le_of_ble_eq_true rfl, Nat.le_of_ble_eq_true rfl⟩ hl.1 (Nat.le_of_ble_eq_true rfl) ⟨Nat.zero_le _, Nat.zero_le _⟩ dX5_pace_73 (fun H locs hI => ?_)
          refine lv_imul hx hb dX5_pace_76 ?_
          refine lv_iload_n hx hb dX5_pace_77 rfl (lv_at hl 3 rfl) ?_
          obtain ⟨g_78, h⟩ := g_guard h
          refine lv_idiv hx hb dX5_pace_78 g_78 ?_
          refine lv_goto (tgt := 85) hx hb dX5_pace_79 (by decide) ?_
          have h := Option.some.inj h
          subst h
          exact hq _ _ _ _ hI dX5_pace_85
      · have h := (if_neg c_24).symm.trans h
        refine lv_iload_n hx hb dX5_pace_27 rfl (lv_at hl 3 rfl) ?_
        refine lv_aload_n hx hb dX5_pace_28 rfl (lv_at hl 0 rfl) ?_
        refine lv_iload_n hx hb dX5_pace_29 rfl (lv_at hl 2 rfl) ?_
        refine lv_iload hx hb dX5_pace_30 (lv_at hl 4 rfl) ?_
        refine g_callVi (E' := gE a cI σ) (k0 := 8) (As := [.int (f_X3_klassOf σ x1), .int v4_14]) (rest := [.int v3_14]) F hI (c_X5_isVoid l D a cI F.2.2 σ (f_X3_klassOf σ x1) v4_14) kb_X5_isVoid ki_X5_isVoid ks_X5_isVoid km_X5_66 ⟨Nat.le_of_ble_eq_true rfl, Nat.le_of_ble_eq_true rfl, rfl, rfl⟩ (by decide) gE_8 rfl hl.1 rfl (Nat.le_of_ble_eq_true rfl) ⟨Nat.zero_le _, Nat.zero_le _⟩ dX5_pace_32 (fun H locs hI => ?_)
        obtain ⟨j53, hj53, h⟩ := gJoin1_in h
        have J53 : ∀ (w0_53 : Int32) (H : Heap) (locs : List Loc) (ls : Array Slot), j53 w0_53 = some out → g_S 65 D a (gE a cI σ) s.heap H locs → lv_has ls 5 [(0, .ref (a 8)), (1, .int x1), (2, .int (f_X3_klassOf σ x1)), (4, .int v4_14)] → W p l e rmX5_pace s m args below meth c H locs 0 0 Q (F0 m 53 ls [.int w0_53, .int v3_14]) := by
          intro w0_53 H locs ls h hI hl
          rw [hj53] at h
          refine lv_iadd hx hb dX5_pace_53 ?_
          refine lv_istore_n (lv' := [(3, .int (v3_14 + w0_53)), (0, .ref (a 8)), (1, .int x1), (2, .int (f_X3_klassOf σ x1)), (4, .int v4_14)]) hx hb dX5_pace_54 rfl hl (by decide) rfl (fun ls hl => ?_)
          refine lv_iinc (v := v4_14 + 1) (lv' := [(4, .int (v4_14 + 1)), (3, .int (v3_14 + w0_53)), (0, .ref (a 8)), (1, .int x1), (2, .int (f_X3_klassOf σ x1))]) hx hb dX5_pace_55 hl (k := 4) rfl rfl (by decide) rfl (fun ls hl => ?_)
          refine lv_goto (tgt := 14) hx hb dX5_pace_58 (by decide) ?_
          exact ih14 _ _ _ _ _ h hI (lv_sub hl [2, 3, 4, 1, 0] rfl)
        refine lv_if_eq (tgt := 42) hx hb dX5_pace_35 (by decide) (fun c_35 => ?_) (fun c_35 => ?_)
        · have h := (if_pos c_35).symm.trans h
          refine lv_iconst (v := 0) hx hb dX5_pace_42 (by decide) ?_
          refine lv_aload_n hx hb dX5_pace_43 rfl (lv_at hl 0 rfl) ?_
          refine lv_iload_n hx hb dX5_pace_44 rfl (lv_at hl 2 rfl) ?_
          refine lv_iload hx hb dX5_pace_45 (lv_at hl 4 rfl) ?_
          obtain ⟨r_47, e_47, h⟩ := gBind_in h
          refine g_callVi (E' := gE a cI σ) (k0 := 8) (As := [.int (f_X3_klassOf σ x1), .int v4_14]) (rest := [.int 0, .int v3_14]) F hI (c_X5_bestSplit l D a cI F.2.2 N σ (f_X3_klassOf σ x1) v4_14 r_47 e_47) kb_X5_bestSplit ki_X5_bestSplit ks_X5_bestSplit km_X5_70 ⟨Nat.le_of_ble_eq_true rfl, Nat.le_of_ble_eq_true rfl, rfl, rfl⟩ (by decide) gE_8 rfl hl.1 rfl (Nat.le_of_ble_eq_true rfl) ⟨Nat.zero_le _, Nat.zero_le _⟩ dX5_pace_47 (fun H locs hI => ?_)
          refine g_mmax F hl.1 km_X5_80 ⟨Nat.le_of_ble_eq_true rfl, Nat.le_of_ble_eq_true rfl⟩ ⟨Nat.zero_le _, Nat.zero_le _⟩ dX5_pace_50 ?_
          exact J53 _ _ _ _ h hI (lv_sub hl [0, 1, 2, 4] rfl)
        · have h := (if_neg c_35).symm.trans h
          refine lv_iconst (v := 0) hx hb dX5_pace_38 (by decide) ?_
          refine lv_goto (tgt := 53) hx hb dX5_pace_39 (by decide) ?_
          exact J53 _ _ _ _ h hI (lv_sub hl [0, 1, 2, 4] rfl)
  exact L14 _ _ _ _ _ _ h hI (lv_sub hl [3, 4, 2, 1, 0] rfl)
/-- Spurline$Results.lostMinutes(II)I -/
def f_X5_lostMinutes (N : Nat) (σ : gSt) (x1 x2 : Int32) : Option Int32 :=
  if gget σ 26 x1 = 1 then
    if f_X5_isVoid σ (f_X3_klassOf σ x1) x2 = 0 then
      (f_X5_bestSplit N σ (f_X3_klassOf σ x1) x2).bind (fun (r_35 : Int32) =>
      (f_X5_pace N σ x1).bind (fun (r_40 : Int32) =>
      some (jmax 0 ((f_X5_splitMinutes σ x1 x2) - ((r_35 * r_40) / 1000)))))
    else
      some (-1)
  else
    some (-1)
abbrev rmX5_lostMinutes : Room := { frames := 5, cells := 0, slots := 0, locals := 119 }
theorem kb_X5_lostMinutes : g_CB yX5_lostMinutes cX5_lostMinutes 5 (some .int) 2 := ⟨kc_X5_lostMinutes, kn_X5, by decide +kernel⟩
set_option maxRecDepth 100000 in
set_option maxHeartbeats 4000000 in
theorem c_X5_lostMinutes (l : Launch) (D : va_G) (a : Nat → Nat) (cI : ClassId) (hj : g_Inj 65 a) (N : Nat) (σ : gSt) (x1 x2 : Int32) (out : Int32) (hh : f_X5_lostMinutes N σ x1 x2 = some out) : Met l yX5_lostMinutes (Cond.code yX5_lostMinutes cX5_lostMinutes 5 (some .int) :: gW) rmX5_lostMinutes (g_Pc 65 D a (gE a cI σ) [(cI, .int)] [.ref (a 8), .int x1, .int x2]) (g_Qi 65 D a (gE a cI σ) out) 0 0 (g_Own 65 a) := by
  refine g_meti (by decide) hj (Nat.le_of_ble_eq_true rfl) ?_
  intro p e s m args below meth c Q ls F hl hI hq
  have hx := F.1.1
  have hb := F.1.2.1
  have hl : lv_has ls 5 [(0, .ref (a 8)), (1, .int x1), (2, .int x2)] := hl
  have h := hh
  unfold f_X5_lostMinutes at h
  refine lv_aload_n hx hb dX5_lostMinutes_0 rfl (lv_at hl 0 rfl) ?_
  refine g_get F hI (by decide) gE_8 rfl ku_X5 2 (by decide) kf_X5_40 rfl dX5_lostMinutes_1 ?_
  refine lv_iload_n hx hb dX5_lostMinutes_4 rfl (lv_at hl 1 rfl) ?_
  refine g_callVi (E' := gE a cI σ) (k0 := 7) (As := [.int x1]) (rest := []) F hI (c_X3_klassOf l D a cI F.2.2 σ x1) kb_X3_klassOf ki_X3_klassOf ks_X3_klassOf km_X5_63 ⟨Nat.le_of_ble_eq_true rfl, Nat.le_of_ble_eq_true rfl, rfl, rfl⟩ (by decide) gE_7 rfl hl.1 rfl (Nat.le_of_ble_eq_true rfl) ⟨Nat.zero_le _, Nat.zero_le _⟩ dX5_lostMinutes_5 (fun H locs hI => ?_)
  refine lv_istore_n (lv' := [(3, .int (f_X3_klassOf σ x1)), (0, .ref (a 8)), (1, .int x1), (2, .int x2)]) hx hb dX5_lostMinutes_8 rfl hl (by decide) rfl (fun ls hl => ?_)
  refine lv_aload_n hx hb dX5_lostMinutes_9 rfl (lv_at hl 1 rfl) ?_
  refine g_get F hI (by decide) gE_8 rfl ku_X5 6 (by decide) kf_X5_26 rfl dX5_lostMinutes_10 ?_
  refine lv_iload_n hx hb dX5_lostMinutes_13 rfl (lv_at hl 2 rfl) ?_
  refine g_rget F hI 26 (by decide) km_X5_59 ⟨Nat.le_of_ble_eq_true rfl, Nat.le_of_ble_eq_true rfl⟩ hl.1 (Nat.le_of_ble_eq_true rfl) ⟨Nat.zero_le _, Nat.zero_le _⟩ dX5_lostMinutes_14 (fun H locs hI => ?_)
  refine lv_iconst (v := 1) hx hb dX5_lostMinutes_17 (by decide) ?_
  refine lv_icmp_ne (tgt := 30) hx hb dX5_lostMinutes_18 (by decide) (fun c_18 => ?_) (fun c_18 => ?_)
  · have h := (if_neg c_18).symm.trans h
    refine lv_iconst (v := -1) hx hb dX5_lostMinutes_30 (by decide) ?_
    have h := Option.some.inj h
    subst h
    exact hq _ _ _ _ hI dX5_lostMinutes_31
  · have h := (if_pos c_18).symm.trans h
    refine lv_aload_n hx hb dX5_lostMinutes_21 rfl (lv_at hl 1 rfl) ?_
    refine lv_iload_n hx hb dX5_lostMinutes_22 rfl (lv_at hl 0 rfl) ?_
    refine lv_iload_n hx hb dX5_lostMinutes_23 rfl (lv_at hl 3 rfl) ?_
    refine g_callVi (E' := gE a cI σ) (k0 := 8) (As := [.int (f_X3_klassOf σ x1), .int x2]) (rest := []) F hI (c_X5_isVoid l D a cI F.2.2 σ (f_X3_klassOf σ x1) x2) kb_X5_isVoid ki_X5_isVoid ks_X5_isVoid km_X5_66 ⟨Nat.le_of_ble_eq_true rfl, Nat.le_of_ble_eq_true rfl, rfl, rfl⟩ (by decide) gE_8 rfl hl.1 rfl (Nat.le_of_ble_eq_true rfl) ⟨Nat.zero_le _, Nat.zero_le _⟩ dX5_lostMinutes_24 (fun H locs hI => ?_)
    refine lv_if_eq (tgt := 32) hx hb dX5_lostMinutes_27 (by decide) (fun c_27 => ?_) (fun c_27 => ?_)
    · have h := (if_pos c_27).symm.trans h
      refine lv_aload_n hx hb dX5_lostMinutes_32 rfl (lv_at hl 1 rfl) ?_
      refine lv_iload_n hx hb dX5_lostMinutes_33 rfl (lv_at hl 0 rfl) ?_
      refine lv_iload_n hx hb dX5_lostMinutes_34 rfl (lv_at hl 3 rfl) ?_
      obtain ⟨r_35, e_35, h⟩ := gBind_in h
      refine g_callVi (E' := gE a cI σ) (k0 := 8) (As := [.int (f_X3_klassOf σ x1), .int x2]) (rest := []) F hI (c_X5_bestSplit l D a cI F.2.2 N σ (f_X3_klassOf σ x1) x2 r_35 e_35) kb_X5_bestSplit ki_X5_bestSplit ks_X5_bestSplit km_X5_70 ⟨Nat.le_of_ble_eq_true rfl, Nat.le_of_ble_eq_true rfl, rfl, rfl⟩ (by decide) gE_8 rfl hl.1 rfl (Nat.le_of_ble_eq_true rfl) ⟨Nat.zero_le _, Nat.zero_le _⟩ dX5_lostMinutes_35 (fun H locs hI => ?_)
      refine lv_aload_n hx hb dX5_lostMinutes_38 rfl (lv_at hl 1 rfl) ?_
      refine lv_iload_n hx hb dX5_lostMinutes_39 rfl (lv_at hl 2 rfl) ?_
      obtain ⟨r_40, e_40, h⟩ := gBind_in h
      refine g_callVi (E' := gE a cI σ) (k0 := 8) (As := [.int x1]) (rest := [.int r_35]) F hI (c_X5_pace l D a cI F.2.2 N σ x1 r_40 e_40) kb_X5_pace ki_X5_pace ks_X5_pace km_X5_74 ⟨Nat.le_of_ble_eq_true rfl, Nat.le_of_ble_eq_true rfl, rfl, rfl⟩ (by decide) gE_8 rfl hl.1 rfl (Nat.le_of_ble_eq_true rfl) ⟨Nat.zero_le _, Nat.zero_le _⟩ dX5_lostMinutes_40 (fun H locs hI => ?_)
      refine lv_imul hx hb dX5_lostMinutes_43 ?_
      refine lv_sipush (v := 1000) hx hb dX5_lostMinutes_44 (by decide) ?_
      refine lv_idiv hx hb dX5_lostMinutes_47 (by decide) ?_
      refine lv_istore (lv' := [(4, .int ((r_35 * r_40) / 1000)), (3, .int (f_X3_klassOf σ x1)), (0, .ref (a 8)), (1, .int x1), (2, .int x2)]) hx hb dX5_lostMinutes_48 hl (by decide) rfl (fun ls hl => ?_)
      refine lv_iconst (v := 0) hx hb dX5_lostMinutes_50 (by decide) ?_
      refine lv_aload_n hx hb dX5_lostMinutes_51 rfl (lv_at hl 2 rfl) ?_
      refine lv_iload_n hx hb dX5_lostMinutes_52 rfl (lv_at hl 3 rfl) ?_
      refine lv_iload_n hx hb dX5_lostMinutes_53 rfl (lv_at hl 4 rfl) ?_
      refine g_callVi (E' := gE a cI σ) (k0 := 8) (As := [.int x1, .int x2]) (rest := [.int 0]) F hI (c_X5_splitMinutes l D a cI F.2.2 σ x1 x2) kb_X5_splitMinutes ki_X5_splitMinutes ks_X5_splitMinutes km_X5_77 ⟨Nat.le_of_ble_eq_true rfl, Nat.le_of_ble_eq_true rfl, rfl, rfl⟩ (by decide) gE_8 rfl hl.1 rfl (Nat.le_of_ble_eq_true rfl) ⟨Nat.zero_le _, Nat.zero_le _⟩ dX5_lostMinutes_54 (fun H locs hI => ?_)
      refine lv_iload hx hb dX5_lostMinutes_57 (lv_at hl 0 rfl) ?_
      refine lv_isub hx hb dX5_lostMinutes_59 ?_
      refine g_mmax F hl.1 km_X5_80 ⟨Nat.le_of_ble_eq_true rfl, Nat.le_of_ble_eq_true rfl⟩ ⟨Nat.zero_le _, Nat.zero_le _⟩ dX5_lostMinutes_60 ?_
      have h := Option.some.inj h
      subst h
      exact hq _ _ _ _ hI dX5_lostMinutes_63
    · have h := (if_neg c_27).symm.trans h
      refine lv_iconst (v := -1) hx hb dX5_lostMinutes_30 (by decide) ?_
      have h := Option.some.inj h
      subst h
      exact hq _ _ _ _ hI dX5_lostMinutes_31
