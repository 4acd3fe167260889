/-- Spurline$Contours.isHigh(II)Z -/
def f_X0_isHigh (σ : gSt) (x1 x2 : Int32) : Int32 :=
  if f_X8_heightOf σ (f_X8_number x1 x2) < σ.2 2 then
    0
  else
    1
abbrev rmX0_isHigh : Room := { frames := 2, cells := 0, slots := 0, locals := 42 }
theorem kb_X0_isHigh : g_CB yX0_isHigh cX0_isHigh 3 (some .boolean) 2 := ⟨kc_X0_isHigh, kn_X0, by decide +kernel⟩
set_option maxRecDepth 100000 in
set_option maxHeartbeats 4000000 in
theorem c_X0_isHigh (l : Launch) (D : va_G) (a : Nat → Nat) (cI : ClassId) (hj : g_Inj 65 a) (σ : gSt) (x1 x2 : Int32) : Met l yX0_isHigh (Cond.code yX0_isHigh cX0_isHigh 3 (some .boolean) :: gW) rmX0_isHigh (g_Pc 65 D a (gE a cI σ) [(cI, .int)] [.ref (a 2), .int x1, .int x2]) (g_Qi 65 D a (gE a cI σ) (f_X0_isHigh σ x1 x2)) 0 0 (g_Own 65 a) := by
  generalize hh : f_X0_isHigh σ x1 x2 = out
  refine g_metz (by decide) hj (Nat.le_of_ble_eq_true rfl) ?_
  intro p e s m args below meth c Q ls F hl hI hq
  have hx := F.1.1
  have hb := F.1.2.1
  have hl : lv_has ls 3 [(0, .ref (a 2)), (1, .int x1), (2, .int x2)] := hl
  have h := hh
  unfold f_X0_isHigh at h
  refine lv_aload_n hx hb dX0_isHigh_0 rfl (lv_at hl 0 rfl) ?_
  refine g_get F hI (by decide) gE_2 rfl ku_X0 0 (by decide) kf_X0_26 rfl dX0_isHigh_1 ?_
  refine lv_iload_n hx hb dX0_isHigh_4 rfl (lv_at hl 1 rfl) ?_
  refine lv_iload_n hx hb dX0_isHigh_5 rfl (lv_at hl 2 rfl) ?_
  refine g_callSi (E' := gE a cI σ) (As := [.int x1, .int x2]) (rest := [.ref (a 1)]) F hI (c_X8_number l D a cI F.2.2 σ x1 x2) kb_X8_number kt_X8_number km_X0_56 ⟨Nat.le_of_ble_eq_true rfl, Nat.le_of_ble_eq_true rfl, rfl, rfl⟩ hl.1 rfl (Nat.le_of_ble_eq_true rfl) ⟨Nat.zero_le _, Nat.zero_le _⟩ dX0_isHigh_6 (fun H locs hI => ?_)
  refine g_callVi (E' := gE a cI σ) (k0 := 1) (As := [.int (f_X8_number x1 x2)]) (rest := []) F hI (c_X8_heightOf l D a cI F.2.2 σ (f_X8_number x1 x2)) kb_X8_heightOf ki_X8_heightOf ks_X8_heightOf km_X0_61 ⟨Nat.le_of_ble_eq_true rfl, Nat.le_of_ble_eq_true rfl, rfl, rfl⟩ (by decide) gE_1 rfl hl.1 rfl (Nat.le_of_ble_eq_true rfl) ⟨Nat.zero_le _, Nat.zero_le _⟩ dX0_isHigh_9 (fun H locs hI => ?_)
  refine lv_aload_n hx hb dX0_isHigh_12 rfl (lv_at hl 0 rfl) ?_
  refine g_get F hI (by decide) gE_2 rfl ku_X0 4 (by decide) kf_X0_30 rfl dX0_isHigh_13 ?_
  refine lv_icmp_lt (tgt := 23) hx hb dX0_isHigh_16 (by decide) (fun c_16 => ?_) (fun c_16 => ?_)
  · have h := (if_pos c_16).symm.trans h
    refine lv_iconst (v := 0) hx hb dX0_isHigh_23 (by decide) ?_
    subst h
    exact hq _ _ _ _ _ (show (0 : Int32) &&& 1 = 0 from by decide) hI dX0_isHigh_24
  · have h := (if_neg c_16).symm.trans h
    refine lv_iconst (v := 1) hx hb dX0_isHigh_19 (by decide) ?_
    refine lv_goto (tgt := 24) hx hb dX0_isHigh_20 (by decide) ?_
    subst h
    exact hq _ _ _ _ _ (show (1 : Int32) &&& 1 = 1 from by decide) hI dX0_isHigh_24
/-- Spurline$Contours.gapToTheRight(II)I -/
def f_X0_gapToTheRight (x0 x1 : Int32) : Int32 :=
  f_X8_number x0 x1
abbrev rmX0_gapToTheRight : Room := { frames := 1, cells := 0, slots := 0, locals := 21 }
theorem kb_X0_gapToTheRight : g_CB yX0_gapToTheRight cX0_gapToTheRight 2 (some .int) 2 := ⟨kc_X0_gapToTheRight, kn_X0, by decide +kernel⟩
set_option maxRecDepth 100000 in
set_option maxHeartbeats 4000000 in
theorem c_X0_gapToTheRight (l : Launch) (D : va_G) (a : Nat → Nat) (cI : ClassId) (hj : g_Inj 65 a) (σ : gSt) (x0 x1 : Int32) : Met l yX0_gapToTheRight (Cond.code yX0_gapToTheRight cX0_gapToTheRight 2 (some .int) :: gW) rmX0_gapToTheRight (g_Pc 65 D a (gE a cI σ) [(cI, .int)] [.int x0, .int x1]) (g_Qi 65 D a (gE a cI σ) (f_X0_gapToTheRight x0 x1)) 0 0 (g_Own 65 a) := by
  generalize hh : f_X0_gapToTheRight x0 x1 = out
  refine g_meti (by decide) hj (Nat.le_of_ble_eq_true rfl) ?_
  intro p e s m args below meth c Q ls F hl hI hq
  have hx := F.1.1
  have hb := F.1.2.1
  have hl : lv_has ls 2 [(0, .int x0), (1, .int x1)] := hl
  have h := hh
  unfold f_X0_gapToTheRight at h
  refine lv_iload_n hx hb dX0_gapToTheRight_0 rfl (lv_at hl 0 rfl) ?_
  refine lv_iload_n hx hb dX0_gapToTheRight_1 rfl (lv_at hl 1 rfl) ?_
  refine g_callSi (E' := gE a cI σ) (As := [.int x0, .int x1]) (rest := []) F hI (c_X8_number l D a cI F.2.2 σ x0 x1) kb_X8_number kt_X8_number km_X0_56 ⟨Nat.le_of_ble_eq_true rfl, Nat.le_of_ble_eq_true rfl, rfl, rfl⟩ hl.1 rfl (Nat.le_of_ble_eq_true rfl) ⟨Nat.zero_le _, Nat.zero_le _⟩ dX0_gapToTheRight_2 (fun H locs hI => ?_)
  subst h
  exact hq _ _ _ _ hI dX0_gapToTheRight_5
/-- Spurline$Contours.gapBelow(II)I -/
def f_X0_gapBelow (x0 x1 : Int32) : Int32 :=
  144 + (f_X8_number x0 x1)
abbrev rmX0_gapBelow : Room := { frames := 1, cells := 0, slots := 0, locals := 21 }
theorem kb_X0_gapBelow : g_CB yX0_gapBelow cX0_gapBelow 2 (some .int) 2 := ⟨kc_X0_gapBelow, kn_X0, by decide +kernel⟩
set_option maxRecDepth 100000 in
set_option maxHeartbeats 4000000 in
theorem c_X0_gapBelow (l : Launch) (D : va_G) (a : Nat → Nat) (cI : ClassId) (hj : g_Inj 65 a) (σ : gSt) (x0 x1 : Int32) : Met l yX0_gapBelow (Cond.code yX0_gapBelow cX0_gapBelow 2 (some .int) :: gW) rmX0_gapBelow (g_Pc 65 D a (gE a cI σ) [(cI, .int)] [.int x0, .int x1]) (g_Qi 65 D a (gE a cI σ) (f_X0_gapBelow x0 x1)) 0 0 (g_Own 65 a) := by
  generalize hh : f_X0_gapBelow x0 x1 = out
  refine g_meti (by decide) hj (Nat.le_of_ble_eq_true rfl) ?_
  intro p e s m args below meth c Q ls F hl hI hq
  have hx := F.1.1
  have hb := F.1.2.1
  have hl : lv_has ls 2 [(0, .int x0), (1, .int x1)] := hl
  have h := hh
  unfold f_X0_gapBelow at h
  refine lv_sipush (v := 144) hx hb dX0_gapBelow_0 (by decide) ?_
  refine lv_iload_n hx hb dX0_gapBelow_3 rfl (lv_at hl 0 rfl) ?_
  refine lv_iload_n hx hb dX0_gapBelow_4 rfl (lv_at hl 1 rfl) ?_
  refine g_callSi (E' := gE a cI σ) (As := [.int x0, .int x1]) (rest := [.int 144]) F hI (c_X8_number l D a cI F.2.2 σ x0 x1) kb_X8_number kt_X8_number km_X0_56 ⟨Nat.le_of_ble_eq_true rfl, Nat.le_of_ble_eq_true rfl, rfl, rfl⟩ hl.1 rfl (Nat.le_of_ble_eq_true rfl) ⟨Nat.zero_le _, Nat.zero_le _⟩ dX0_gapBelow_5 (fun H locs hI => ?_)
  refine lv_iadd hx hb dX0_gapBelow_8 ?_
  subst h
  exact hq _ _ _ _ hI dX0_gapBelow_9
/-- Spurline$Contours.findGaps()V -/
def f_X0_findGaps (N : Nat) (σ : gSt) : Option gSt :=
  gLoop2 (fun self2 (v1_2 : Int32) (s_2 : gSt) =>
    if f_X8_rows s_2 ≤ v1_2 then
      some s_2
    else
      gLoop2 (fun self15 (v2_15 : Int32) (s_15 : gSt) =>
        if f_X8_columns s_15 ≤ v2_15 then
          self2 (v1_2 + 1) s_15
        else
          gJoin1 (fun (s_76 : gSt) =>
              gJoin1 (fun (s_119 : gSt) =>
                  self15 (v2_15 + 1) s_119) (fun j119 =>
                if f_X8_has s_76 v2_15 (v1_2 + 1) = 0 then
                  j119 s_76
                else
                  if f_X0_isHigh s_15 v2_15 v1_2 = f_X0_isHigh s_76 v2_15 (v1_2 + 1) then
                    j119 s_76
                  else
                    j119 (gput s_76 2 (f_X0_gapBelow v2_15 v1_2) (f_X0_gapBelow v2_15 v1_2)))) (fun j76 =>
            if f_X8_has s_15 (v2_15 + 1) v1_2 = 0 then
              j76 s_15
            else
              if f_X0_isHigh s_15 v2_15 v1_2 = f_X0_isHigh s_15 (v2_15 + 1) v1_2 then
                j76 s_15
              else
                j76 (gput s_15 2 (f_X0_gapToTheRight v2_15 v1_2) (f_X0_gapToTheRight v2_15 v1_2)))) N 0 s_2) N 0 σ
abbrev rmX0_findGaps : Room := { frames := 3, cells := 0, slots := 0, locals := 64 }
theorem kb_X0_findGaps : g_CB yX0_findGaps cX0_findGaps 4 none 0 := ⟨kc_X0_findGaps, kn_X0, by decide +kernel⟩
set_option maxRecDepth 100000 in
set_option maxHeartbeats 4000000 in
theorem c_X0_findGaps (l : Launch) (D : va_G) (a : Nat → Nat) (cI : ClassId) (hj : g_Inj 65 a) (N : Nat) (σ : gSt) (out : gSt) (hh : f_X0_findGaps N σ = some out) : Met l yX0_findGaps (Cond.code yX0_findGaps cX0_findGaps 4 none :: gW) rmX0_findGaps (g_Pc 65 D a (gE a cI σ) [(cI, .int)] [.ref (a 2)]) (g_Qv 65 D a (gE a cI out)) 0 0 (g_Own 65 a) := by
  refine g_metv (by decide) hj (Nat.le_of_ble_eq_true rfl) ?_
  intro p e s m args below meth c Q ls F hl hI hq
  have hx := F.1.1
  have hb := F.1.2.1
  have hl : lv_has ls 4 [(0, .ref (a 2))] := hl
  have h := hh
  unfold f_X0_findGaps at h
  refine lv_iconst (v := 0) hx hb dX0_findGaps_0 (by decide) ?_
  refine lv_istore_n (lv' := [(1, .int 0), (0, .ref (a 2))]) hx hb dX0_findGaps_1 rfl hl (by decide) rfl (fun ls hl => ?_)
  obtain ⟨lp2, hz2, hs2, h⟩ := gLoop2_in h
  have L2 : ∀ (n : Nat) (v1_2 : Int32) (s_2 : gSt) (H : Heap) (locs : List Loc) (ls : Array Slot), lp2 n v1_2 s_2 = some out → g_S 65 D a (gE a cI s_2) s.heap H locs → lv_has ls 4 [(0, .ref (a 2)), (1, .int v1_2)] → W p l e rmX0_findGaps s m args below meth c H locs 0 0 Q (F0 m 2 ls []) := by
    intro n
    induction n with
    | zero => intro v1_2 s_2 H locs ls h; rw [hz2] at h; cases h
    | succ n ih2 =>
      intro v1_2 s_2 H locs ls h hI hl
      rw [hs2] at h
      refine lv_iload_n hx hb dX0_findGaps_2 rfl (lv_at hl 1 rfl) ?_
      refine lv_aload_n hx hb dX0_findGaps_3 rfl (lv_at hl 0 rfl) ?_
      refine g_get F hI (by decide) gE_2 rfl ku_X0 0 (by decide) kf_X0_26 rfl dX0_findGaps_4 ?_
      refine g_callVi (E' := gE a cI s_2) (k0 := 1) (As := []) (rest := [.int v1_2]) F hI (c_X8_rows l D a cI F.2.2 s_2) kb_X8_rows ki_X8_rows ks_X8_rows km_X0_64 ⟨Nat.le_of_ble_eq_true rfl, Nat.le_of_ble_eq_true rfl, rfl, rfl⟩ (by decide) gE_1 rfl hl.1 rfl (Nat.le_of_ble_eq_true rfl) ⟨Nat.zero_le _, Nat.zero_le _⟩ dX0_findGaps_7 (fun H locs hI => ?_)
      refine lv_icmp_ge (tgt := 131) hx hb dX0_findGaps_10 (by decide) (fun c_10 => ?_) (fun c_10 => ?_)
      · have h := (if_pos c_10).symm.trans h
        have h := Option.some.inj h
        subst h
        exact hq _ _ _ _ hI dX0_findGaps_131
      · have h := (if_neg c_10).symm.trans h
        refine lv_iconst (v := 0) hx hb dX0_findGaps_13 (by decide) ?_
        refine lv_istore_n (lv' := [(2, .int 0), (0, .ref (a 2)), (1, .int v1_2)]) hx hb dX0_findGaps_14 rfl hl (by decide) rfl (fun ls hl => ?_)
        obtain ⟨lp15, hz15, hs15, h⟩ := gLoop2_in h
        have L15 : ∀ (n : Nat) (v2_15 : Int32) (s_15 : gSt) (H : Heap) (locs : List Loc) (ls : Array Slot), lp15 n v2_15 s_15 = some out → g_S 65 D a (gE a cI s_15) s.heap H locs → lv_has ls 4 [(0, .ref (a 2)), (1, .int v1_2), (2, .int v2_15)] → W p l e rmX0_findGaps s m args below meth c H locs 0 0 Q (F0 m 15 ls []) := by
          intro n
          induction n with
          | zero => intro v2_15 s_15 H locs ls h; rw [hz15] at h; cases h
          | succ n ih15 =>
            intro v2_15 s_15 H locs ls h hI hl
            rw [hs15] at h
            refine lv_iload_n hx hb dX0_findGaps_15 rfl (lv_at hl 2 rfl) ?_
            refine lv_aload_n hx hb dX0_findGaps_16 rfl (lv_at hl 0 rfl) ?_
            refine g_get F hI (by decide) gE_2 rfl ku_X0 0 (by decide) kf_X0_26 rfl dX0_findGaps_17 ?_
            refine g_callVi (E' := gE a cI s_15) (k0 := 1) (As := []) (rest := [.int v2_15]) F hI (c_X8_columns l D a cI F.2.2 s_15) kb_X8_columns ki_X8_columns ks_X8_columns km_X0_68 ⟨Nat.le_of_ble_eq_true rfl, Nat.le_of_ble_eq_true rfl, rfl, rfl⟩ (by decide) gE_1 rfl hl.1 rfl (Nat.le_of_ble_eq_true rfl) ⟨Nat.zero_le _, Nat.zero_le _⟩ dX0_findGaps_20 (fun H locs hI => ?_)
            refine lv_icmp_ge (tgt := 125) hx hb dX0_findGaps_23 (by decide) (fun c_23 => ?_) (fun c_23 => ?_)
            · have h := (if_pos c_23).symm.trans h
              refine lv_iinc (v := v1_2 + 1) (lv' := [(1, .int (v1_2 + 1)), (0, .ref (a 2)), (2, .int v2_15)]) hx hb dX0_findGaps_125 hl (k := 1) rfl rfl (by decide) rfl (fun ls hl => ?_)
              refine lv_goto (tgt := 2) hx hb dX0_findGaps_128 (by decide) ?_
              exact ih2 _ _ _ _ _ h hI (lv_sub hl [1, 0] rfl)
            · have h := (if_neg c_23).symm.trans h
              refine lv_aload_n hx hb dX0_findGaps_26 rfl (lv_at hl 0 rfl) ?_
              refine lv_iload_n hx hb dX0_findGaps_27 rfl (lv_at hl 2 rfl) ?_
              refine lv_iload_n hx hb dX0_findGaps_28 rfl (lv_at hl 1 rfl) ?_
              refine g_callVi (E' := gE a cI s_15) (k0 := 2) (As := [.int v2_15, .int v1_2]) (rest := []) F hI (c_X0_isHigh l D a cI F.2.2 s_15 v2_15 v1_2) kb_X0_isHigh ki_X0_isHigh ks_X0_isHigh km_X0_71 ⟨Nat.le_of_ble_eq_true rfl, Nat.le_of_ble_eq_true rfl, rfl, rfl⟩ (by decide) gE_2 rfl hl.1 rfl (Nat.le_of_ble_eq_true rfl) ⟨Nat.zero_le _, Nat.zero_le _⟩ dX0_findGaps_29 (fun H locs hI => ?_)
              refine lv_istore_n (lv' := [(3, .int (f_X0_isHigh s_15 v2_15 v1_2)), (0, .ref (a 2)), (1, .int v1_2), (2, .int v2_15)]) hx hb dX0_findGaps_32 rfl hl (by decide) rfl (fun ls hl => ?_)
              refine lv_aload_n hx hb dX0_findGaps_33 rfl (lv_at hl 1 rfl) ?_
              refine g_get F hI (by decide) gE_2 rfl ku_X0 0 (by decide) kf_X0_26 rfl dX0_findGaps_34 ?_
              refine lv_iload_n hx hb dX0_findGaps_37 rfl (lv_at hl 3 rfl) ?_
              refine lv_iconst (v := 1) hx hb dX0_findGaps_38 (by decide) ?_
              refine lv_iadd hx hb dX0_findGaps_39 ?_
              refine lv_iload_n hx hb dX0_findGaps_40 rfl (lv_at hl 2 rfl) ?_
              refine g_callVi (E' := gE a cI s_15) (k0 := 1) (As := [.int (v2_15 + 1), .int v1_2]) (rest := []) F hI (c_X8_has l D a cI F.2.2 s_15 (v2_15 + 1) v1_2) kb_X8_has ki_X8_has ks_X8_has km_X0_75 ⟨Nat.le_of_ble_eq_true rfl, Nat.le_of_ble_eq_true rfl, rfl, rfl⟩ (by decide) gE_1 rfl hl.1 rfl (Nat.le_of_ble_eq_true rfl) ⟨Nat.zero_le _, Nat.zero_le _⟩ dX0_findGaps_41 (fun H locs hI => ?_)
              obtain ⟨j76, hj76, h⟩ := gJoin1_in h
              have J76 : ∀ (s_76 : gSt) (H : Heap) (locs : List Loc) (ls : Array Slot), j76 s_76 = some out → g_S 65 D a (gE a cI s_76) s.heap H locs → lv_has ls 4 [(0, .ref (a 2)), (1, .int v1_2), (2, .int v2_15), (3, .int (f_X0_isHigh s_15 v2_15 v1_2))] → W p l e rmX0_findGaps s m args below meth c H locs 0 0 Q (F0 m 76 ls []) := by
                intro s_76 H locs ls h hI hl
                rw [hj76] at h
                refine lv_aload_n hx hb dX0_findGaps_76 rfl (lv_at hl 0 rfl) ?_
                refine g_get F hI (by decide) gE_2 rfl ku_X0 0 (by decide) kf_X0_26 rfl dX0_findGaps_77 ?_
                refine lv_iload_n hx hb dX0_findGaps_80 rfl (lv_at hl 2 rfl) ?_
                refine lv_iload_n hx hb dX0_findGaps_81 rfl (lv_at hl 1 rfl) ?_
                refine lv_iconst (v := 1) hx hb dX0_findGaps_82 (by decide) ?_
                refine lv_iadd hx hb dX0_findGaps_83 ?_
                refine g_callVi (E' := gE a cI s_76) (k0 := 1) (As := [.int v2_15, .int (v1_2 + 1)]) (rest := []) F hI (c_X8_has l D a cI F.2.2 s_76 v2_15 (v1_2 + 1)) kb_X8_has ki_X8_has ks_X8_has km_X0_75 ⟨Nat.le_of_ble_eq_true rfl, Nat.le_of_ble_eq_true rfl, rfl, rfl⟩ (by decide) gE_1 rfl hl.1 rfl (Nat.le_of_ble_eq_true rfl) ⟨Nat.zero_le _, Nat.zero_le _⟩ dX0_findGaps_84 (fun H locs hI => ?_)
                obtain ⟨j119, hj119, h⟩ := gJoin1_in h
                have J119 : ∀ (s_119 : gSt) (H : Heap) (locs : List Loc) (ls : Array Slot), j119 s_119 = some out → g_S 65 D a (gE a cI s_119) s.heap H locs → lv_has ls 4 [(0, .ref (a 2)), (1, .int v1_2), (2, .int v2_15)] → W p l e rmX0_findGaps s m args below meth c H locs 0 0 Q (F0 m 119 ls []) := by
                  intro s_119 H locs ls h hI hl
                  rw [hj119] at h
                  refine lv_iinc (v := v2_15 + 1) (lv' := [(2, .int (v2_15 + 1)), (0, .ref (a 2)), (1, .int v1_2)]) hx hb dX0_findGaps_119 hl (k := 2) rfl rfl (by decide) rfl (fun ls hl => ?_)
                  refine lv_goto (tgt := 15) hx hb dX0_findGaps_122 (by decide) ?_
                  exact ih15 _ _ _ _ _ h hI (lv_sub hl [1, 2, 0] rfl)
                refine lv_if_eq (tgt := 119) hx hb dX0_findGaps_87 (by decide) (fun c_87 => ?_) (fun c_87 => ?_)
                · have h := (if_pos c_87).symm.trans h
                  exact J119 _ _ _ _ h hI (lv_sub hl [0, 1, 2] rfl)
                · have h := (if_neg c_87).symm.trans h
                  refine lv_iload_n hx hb dX0_findGaps_90 rfl (lv_at hl 3 rfl) ?_
                  refine lv_aload_n hx hb dX0_findGaps_91 rfl (lv_at hl 0 rfl) ?_
                  refine lv_iload_n hx hb dX0_findGaps_92 rfl (lv_at hl 2 rfl) ?_
                  refine lv_iload_n hx hb dX0_findGaps_93 rfl (lv_at hl 1 rfl) ?_
                  refine lv_iconst (v := 1) hx hb dX0_findGaps_94 (by decide) ?_
                  refine lv_iadd hx hb dX0_findGaps_95 ?_
                  refine g_callVi (E' := gE a cI s_76) (k0 := 2) (As := [.int v2_15, .int (v1_2 + 1)]) (rest := [.int (f_X0_isHigh s_15 v2_15 v1_2)]) F hI (c_X0_isHigh l D a cI F.2.2 s_76 v2_15 (v1_2 + 1)) kb_X0_isHigh ki_X0_isHigh ks_X0_isHigh km_X0_71 ⟨Nat.le_of_ble_eq_true rfl, Nat.le_of_ble_eq_true rfl, rfl, rfl⟩ (by decide) gE_2 rfl hl.1 rfl (Nat.le_of_ble_eq_true rfl) ⟨Nat.zero_le _, Nat.zero_le _⟩ dX0_findGaps_96 (fun H locs hI => ?_)
                  refine lv_icmp_eq (tgt := 119) hx hb dX0_findGaps_99 (by decide) (fun c_99 => ?_) (fun c_99 => ?_)
                  · have h := (if_pos c_99).symm.trans h
                    exact J119 _ _ _ _ h hI (lv_sub hl [0, 1, 2] rfl)
                  · have h := (if_neg c_99).symm.trans h
                    refine lv_aload_n hx hb dX0_findGaps_102 rfl (lv_at hl 0 rfl) ?_
                    refine g_get F hI (by decide) gE_2 rfl ku_X0 1 (by decide) kf_X0_16 rfl dX0_findGaps_103 ?_
                    refine lv_iload_n hx hb dX0_findGaps_106 rfl (lv_at hl 2 rfl) ?_
                    refine lv_iload_n hx hb dX0_findGaps_107 rfl (lv_at hl 1 rfl) ?_
                    refine g_callSi (E' := gE a cI s_76) (As := [.int v2_15, .int v1_2]) (rest := [.ref (a 11)]) F hI (c_X0_gapBelow l D a cI F.2.2 s_76 v2_15 v1_2) kb_X0_gapBelow kt_X0_gapBelow km_X0_85 ⟨Nat.le_of_ble_eq_true rfl, Nat.le_of_ble_eq_true rfl, rfl, rfl⟩ hl.1 rfl (Nat.le_of_ble_eq_true rfl) ⟨Nat.zero_le _, Nat.zero_le _⟩ dX0_findGaps_108 (fun H locs hI => ?_)
                    refine lv_iload_n hx hb dX0_findGaps_111 rfl (lv_at hl 2 rfl) ?_
                    refine lv_iload_n hx hb dX0_findGaps_112 rfl (lv_at hl 1 rfl) ?_
                    refine g_callSi (E' := gE a cI s_76) (As := [.int v2_15, .int v1_2]) (rest := [.int (f_X0_gapBelow v2_15 v1_2), .ref (a 11)]) F hI (c_X0_gapBelow l D a cI F.2.2 s_76 v2_15 v1_2) kb_X0_gapBelow kt_X0_gapBelow km_X0_85 ⟨Nat.le_of_ble_eq_true rfl, Nat.le_of_ble_eq_true rfl, rfl, rfl⟩ hl.1 rfl (Nat.le_of_ble_eq_true rfl) ⟨Nat.zero_le _, Nat.zero_le _⟩ dX0_findGaps_113 (fun H locs hI => ?_)
                    refine g_rput F hI 2 (by decide) km_X0_81 ⟨Nat.le_of_ble_eq_true rfl, Nat.le_of_ble_eq_true rfl⟩ hl.1 (Nat.le_of_ble_eq_true rfl) ⟨Nat.zero_le _, Nat.zero_le _⟩ dX0_findGaps_116 (fun H locs hI => ?_)
                    exact J119 _ _ _ _ h hI (lv_sub hl [0, 1, 2] rfl)
              refine lv_if_eq (tgt := 76) hx hb dX0_findGaps_44 (by decide) (fun c_44 => ?_) (fun c_44 => ?_)
              · have h := (if_pos c_44).symm.trans h
                exact J76 _ _ _ _ h hI (lv_sub hl [1, 2, 3, 0] rfl)
              · have h := (if_neg c_44).symm.trans h
                refine lv_iload_n hx hb dX0_findGaps_47 rfl (lv_at hl 0 rfl) ?_
                refine lv_aload_n hx hb dX0_findGaps_48 rfl (lv_at hl 1 rfl) ?_
                refine lv_iload_n hx hb dX0_findGaps_49 rfl (lv_at hl 3 rfl) ?_
                refine lv_iconst (v := 1) hx hb dX0_findGaps_50 (by decide) ?_
                refine lv_iadd hx hb dX0_findGaps_51 ?_
                refine lv_iload_n hx hb dX0_findGaps_52 rfl (lv_at hl 2 rfl) ?_
                refine g_callVi (E' := gE a cI s_15) (k0 := 2) (As := [.int (v2_15 + 1), .int v1_2]) (rest := [.int (f_X0_isHigh s_15 v2_15 v1_2)]) F hI (c_X0_isHigh l D a cI F.2.2 s_15 (v2_15 + 1) v1_2) kb_X0_isHigh ki_X0_isHigh ks_X0_isHigh km_X0_71 ⟨Nat.le_of_ble_eq_true rfl, Nat.le_of_ble_eq_true rfl, rfl, rfl⟩ (by decide) gE_2 rfl hl.1 rfl (Nat.le_of_ble_eq_true rfl) ⟨Nat.zero_le _, Nat.zero_le _⟩ dX0_findGaps_53 (fun H locs hI => ?_)
                refine lv_icmp_eq (tgt := 76) hx hb dX0_findGaps_56 (by decide) (fun c_56 => ?_) (fun c_56 => ?_)
                · have h := (if_pos c_56).symm.trans h
                  exact J76 _ _ _ _ h hI (lv_sub hl [1, 2, 3, 0] rfl)
                · have h := (if_neg c_56).symm.trans h
                  refine lv_aload_n hx hb dX0_findGaps_59 rfl (lv_at hl 1 rfl) ?_
                  refine g_get F hI (by decide) gE_2 rfl ku_X0 1 (by decide) kf_X0_16 rfl dX0_findGaps_60 ?_
                  refine lv_iload_n hx hb dX0_findGaps_63 rfl (lv_at hl 3 rfl) ?_
                  refine lv_iload_n hx hb dX0_findGaps_64 rfl (lv_at hl 2 rfl) ?_
                  refine g_callSi (E' := gE a cI s_15) (As := [.int v2_15, .int v1_2]) (rest := [.ref (a 11)]) F hI (c_X0_gapToTheRight l D a cI F.2.2 s_15 v2_15 v1_2) kb_X0_gapToTheRight kt_X0_gapToTheRight km_X0_78 ⟨Nat.le_of_ble_eq_true rfl, Nat.le_of_ble_eq_true rfl, rfl, rfl⟩ hl.1 rfl (Nat.le_of_ble_eq_true rfl) ⟨Nat.zero_le _, Nat.zero_le _⟩ dX0_findGaps_65 (fun H locs hI => ?_)
                  refine lv_iload_n hx hb dX0_findGaps_68 rfl (lv_at hl 3 rfl) ?_
                  refine lv_iload_n hx hb dX0_findGaps_69 rfl (lv_at hl 2 rfl) ?_
                  refine g_callSi (E' := gE a cI s_15) (As := [.int v2_15, .int v1_2]) (rest := [.int (f_X0_gapToTheRight v2_15 v1_2), .ref (a 11)]) F hI (c_X0_gapToTheRight l D a cI F.2.2 s_15 v2_15 v1_2) kb_X0_gapToTheRight kt_X0_gapToTheRight km_X0_78 ⟨Nat.le_of_ble_eq_true rfl, Nat.le_of_ble_eq_true rfl, rfl, rfl⟩ hl.1 rfl (Nat.le_of_ble_eq_true rfl) ⟨Nat.zero_le _, Nat.zero_le _⟩ dX0_findGaps_70 (fun H locs hI => ?_)
                  refine g_rput F hI 2 (by decide) km_X0_81 ⟨Nat.le_of_ble_eq_true rfl, Nat.le_of_ble_eq_true rfl⟩ hl.1 (Nat.le_of_ble_eq_true rfl) ⟨Nat.zero_le _, Nat.zero_le _⟩ dX0_findGaps_73 (fun H locs hI => ?_)
                  exact J76 _ _ _ _ h hI (lv_sub hl [1, 2, 3, 0] rfl)
        exact L15 _ _ _ _ _ _ h hI (lv_sub hl [1, 2, 0] rfl)
  exact L2 _ _ _ _ _ _ h hI (lv_sub hl [1, 0] rfl)
/-- Spurline$Contours.isGap(I)Z -/
def f_X0_isGap (σ : gSt) (x1 : Int32) : Int32 :=
  if gget σ 2 x1 = (-1) then
    0
  else
    1
abbrev rmX0_isGap : Room := { frames := 1, cells := 0, slots := 0, locals := 21 }
theorem kb_X0_isGap : g_CB yX0_isGap cX0_isGap 2 (some .boolean) 1 := ⟨kc_X0_isGap, kn_X0, by decide +kernel⟩
set_option maxRecDepth 100000 in
set_option maxHeartbeats 4000000 in
theorem c_X0_isGap (l : Launch) (D : va_G) (a : Nat → Nat) (cI : ClassId) (hj : g_Inj 65 a) (σ : gSt) (x1 : Int32) : Met l yX0_isGap (Cond.code yX0_isGap cX0_isGap 2 (some .boolean) :: gW) rmX0_isGap (g_Pc 65 D a (gE a cI σ) [(cI, .int)] [.ref (a 2), .int x1]) (g_Qi 65 D a (gE a cI σ) (f_X0_isGap σ x1)) 0 0 (g_Own 65 a) := by
  generalize hh : f_X0_isGap σ x1 = out
  refine g_metz (by decide) hj (Nat.le_of_ble_eq_true rfl) ?_
  intro p e s m args below meth c Q ls F hl hI hq
  have hx := F.1.1
  have hb := F.1.2.1
  have hl : lv_has ls 2 [(0, .ref (a 2)), (1, .int x1)] := hl
  have h := hh
  unfold f_X0_isGap at h
  refine lv_aload_n hx hb dX0_isGap_0 rfl (lv_at hl 0 rfl) ?_
  refine g_get F hI (by decide) gE_2 rfl ku_X0 1 (by decide) kf_X0_16 rfl dX0_isGap_1 ?_
  refine lv_iload_n hx hb dX0_isGap_4 rfl (lv_at hl 1 rfl) ?_
  refine g_rget F hI 2 (by decide) km_X0_46 ⟨Nat.le_of_ble_eq_true rfl, Nat.le_of_ble_eq_true rfl⟩ hl.1 (Nat.le_of_ble_eq_true rfl) ⟨Nat.zero_le _, Nat.zero_le _⟩ dX0_isGap_5 (fun H locs hI => ?_)
  refine lv_iconst (v := -1) hx hb dX0_isGap_8 (by decide) ?_
  refine lv_icmp_eq (tgt := 16) hx hb dX0_isGap_9 (by decide) (fun c_9 => ?_) (fun c_9 => ?_)
  · have h := (if_pos c_9).symm.trans h
    refine lv_iconst (v := 0) hx hb dX0_isGap_16 (by decide) ?_
    subst h
    exact hq _ _ _ _ _ (show (0 : Int32) &&& 1 = 0 from by decide) hI dX0_isGap_17
  · have h := (if_neg c_9).symm.trans h
    refine lv_iconst (v := 1) hx hb dX0_isGap_12 (by decide) ?_
    refine lv_goto (tgt := 17) hx hb dX0_isGap_13 (by decide) ?_
    subst h
    exact hq _ _ _ _ _ (show (1 : Int32) &&& 1 = 1 from by decide) hI dX0_isGap_17
/-- Spurline$Contours.joinsLowCells(II)Z -/
def f_X0_joinsLowCells (σ : gSt) (x1 x2 : Int32) : Int32 :=
  if (((f_X8_heightOf σ (f_X8_number x1 x2)) + (f_X8_heightOf σ ((f_X8_number x1 x2) + 1))) + (f_X8_heightOf σ (f_X8_number x1 (x2 + 1)))) + (f_X8_heightOf σ ((f_X8_number x1 (x2 + 1)) + 1)) < 4 * (σ.2 2) then
    0
  else
    1
abbrev rmX0_joinsLowCells : Room := { frames := 2, cells := 0, slots := 0, locals := 42 }
theorem kb_X0_joinsLowCells : g_CB yX0_joinsLowCells cX0_joinsLowCells 6 (some .boolean) 2 := ⟨kc_X0_joinsLowCells, kn_X0, by decide +kernel⟩
set_option maxRecDepth 100000 in
set_option maxHeartbeats 4000000 in
theorem c_X0_joinsLowCells (l : Launch) (D : va_G) (a : Nat → Nat) (cI : ClassId) (hj : g_Inj 65 a) (σ : gSt) (x1 x2 : Int32) : Met l yX0_joinsLowCells (Cond.code yX0_joinsLowCells cX0_joinsLowCells 6 (some .boolean) :: gW) rmX0_joinsLowCells (g_Pc 65 D a (gE a cI σ) [(cI, .int)] [.ref (a 2), .int x1, .int x2]) (g_Qi 65 D a (gE a cI σ) (f_X0_joinsLowCells σ x1 x2)) 0 0 (g_Own 65 a) := by
  generalize hh : f_X0_joinsLowCells σ x1 x2 = out
  refine g_metz (by decide) hj (Nat.le_of_ble_eq_true rfl) ?_
  intro p e s m args below meth c Q ls F hl hI hq
  have hx := F.1.1
  have hb := F.1.2.1
  have hl : lv_has ls 6 [(0, .ref (a 2)), (1, .int x1), (2, .int x2)] := hl
  have h := hh
  unfold f_X0_joinsLowCells at h
  refine lv_iload_n hx hb dX0_joinsLowCells_0 rfl (lv_at hl 1 rfl) ?_
  refine lv_iload_n hx hb dX0_joinsLowCells_1 rfl (lv_at hl 2 rfl) ?_
  refine g_callSi (E' := gE a cI σ) (As := [.int x1, .int x2]) (rest := []) F hI (c_X8_number l D a cI F.2.2 σ x1 x2) kb_X8_number kt_X8_number km_X0_56 ⟨Nat.le_of_ble_eq_true rfl, Nat.le_of_ble_eq_true rfl, rfl, rfl⟩ hl.1 rfl (Nat.le_of_ble_eq_true rfl) ⟨Nat.zero_le _, Nat.zero_le _⟩ dX0_joinsLowCells_2 (fun H locs hI => ?_)
  refine lv_istore_n (lv' := [(3, .int (f_X8_number x1 x2)), (0, .ref (a 2)), (1, .int x1), (2, .int x2)]) hx hb dX0_joinsLowCells_5 rfl hl (by decide) rfl (fun ls hl => ?_)
  refine lv_iload_n hx hb dX0_joinsLowCells_6 rfl (lv_at hl 2 rfl) ?_
  refine lv_iload_n hx hb dX0_joinsLowCells_7 rfl (lv_at hl 3 rfl) ?_
  refine lv_iconst (v := 1) hx hb dX0_joinsLowCells_8 (by decide) ?_
  refine lv_iadd hx hb dX0_joinsLowCells_9 ?_
  refine g_callSi (E' := gE a cI σ) (As := [.int x1, .int (x2 + 1)]) (rest := []) F hI (c_X8_number l D a cI F.2.2 σ x1 (x2 + 1)) kb_X8_number kt_X8_number km_X0_56 ⟨Nat.le_of_ble_eq_true rfl, Nat.le_of_ble_eq_true rfl, rfl, rfl⟩ hl.1 rfl (Nat.le_of_ble_eq_true rfl) ⟨Nat.zero_le _, Nat.zero_le _⟩ dX0_joinsLowCells_10 (fun H locs hI => ?_)
  refine lv_istore (lv' := [(4, .int (f_X8_number x1 (x2 + 1))), (3, .int (f_X8_number x1 x2)), (0, .ref (a 2)), (1, .int x1), (2, .int x2)]) hx hb dX0_joinsLowCells_13 hl (by decide) rfl (fun ls hl => ?_)
  refine lv_aload_n hx hb dX0_joinsLowCells_15 rfl (lv_at hl 2 rfl) ?_
  refine g_get F hI (by decide) gE_2 rfl ku_X0 0 (by decide) kf_X0_26 rfl dX0_joinsLowCells_16 ?_
  refine lv_iload_n hx hb dX0_joinsLowCells_19 rfl (lv_at hl 1 rfl) ?_
  refine g_callVi (E' := gE a cI σ) (k0 := 1) (As := [.int (f_X8_number x1 x2)]) (rest := []) F hI (c_X8_heightOf l D a cI F.2.2 σ (f_X8_number x1 x2)) kb_X8_heightOf ki_X8_heightOf ks_X8_heightOf km_X0_61 ⟨Nat.le_of_ble_eq_true rfl, Nat.le_of_ble_eq_true rfl, rfl, rfl⟩ (by decide) gE_1 rfl hl.1 rfl (Nat.le_of_ble_eq_true rfl) ⟨Nat.zero_le _, Nat.zero_le _⟩ dX0_joinsLowCells_20 (fun H locs hI => ?_)
  refine lv_aload_n hx hb dX0_joinsLowCells_23 rfl (lv_at hl 2 rfl) ?_
  refine g_get F hI (by decide) gE_2 rfl ku_X0 0 (by decide) kf_X0_26 rfl dX0_joinsLowCells_24 ?_
  refine lv_iload_n hx hb dX0_joinsLowCells_27 rfl (lv_at hl 1 rfl) ?_
  refine lv_iconst (v := 1) hx hb dX0_joinsLowCells_28 (by decide) ?_
  refine lv_iadd hx hb dX0_joinsLowCells_29 ?_
  refine g_callVi (E' := gE a cI σ) (k0 := 1) (As := [.int ((f_X8_number x1 x2) + 1)]) (rest := [.int (f_X8_heightOf σ (f_X8_number x1 x2))]) F hI (c_X8_heightOf l D a cI F.2.2 σ ((f_X8_number x1 x2) + 1)) kb_X8_heightOf ki_X8_heightOf ks_X8_heightOf km_X0_61 ⟨Nat.le_of_ble_eq_true rfl, Nat.le_of_ble_eq_true rfl, rfl, rfl⟩ (by decide) gE_1 rfl hl.1 rfl (Nat.le_of_ble_eq_true rfl) ⟨Nat.zero_le _, Nat.zero_le _⟩ dX0_joinsLowCells_30 (fun H locs hI => ?_)
  refine lv_iadd hx hb dX0_joinsLowCells_33 ?_
  refine lv_aload_n hx hb dX0_joinsLowCells_34 rfl (lv_at hl 2 rfl) ?_
  refine g_get F hI (by decide) gE_2 rfl ku_X0 0 (by decide) kf_X0_26 rfl dX0_joinsLowCells_35 ?_
  refine lv_iload hx hb dX0_joinsLowCells_38 (lv_at hl 0 rfl) ?_
  refine g_callVi (E' := gE a cI σ) (k0 := 1) (As := [.int (f_X8_number x1 (x2 + 1))]) (rest := [.int ((f_X8_heightOf σ (f_X8_number x1 x2)) + (f_X8_heightOf σ ((f_X8_number x1 x2) + 1)))]) F hI (c_X8_heightOf l D a cI F.2.2 σ (f_X8_number x1 (x2 + 1))) kb_X8_heightOf ki_X8_heightOf ks_X8_heightOf km_X0_61 ⟨Nat.le_of_ble_eq_true rfl, Nat.le_of_ble_eq_true rfl, rfl, rfl⟩ (by decide) gE_1 rfl hl.1 rfl (Nat.le_of_ble_eq_true rfl) ⟨Nat.zero_le _, Nat.zero_le _⟩ dX0_joinsLowCells_40 (fun H locs hI => ?_)
  refine lv_iadd hx hb dX0_joinsLowCells_43 ?_
  refine lv_aload_n hx hb dX0_joinsLowCells_44 rfl (lv_at hl 2 rfl) ?_
  refine g_get F hI (by decide) gE_2 rfl ku_X0 0 (by decide) kf_X0_26 rfl dX0_joinsLowCells_45 ?_
  refine lv_iload hx hb dX0_joinsLowCells_48 (lv_at hl 0 rfl) ?_
  refine lv_iconst (v := 1) hx hb dX0_joinsLowCells_50 (by decide) ?_
  refine lv_iadd hx hb dX0_joinsLowCells_51 ?_
  refine g_callVi (E' := gE a cI σ) (k0 := 1) (As := [.int ((f_X8_number x1 (x2 + 1)) + 1)]) (rest := [.int (((f_X8_heightOf σ (f_X8_number x1 x2)) + (f_X8_heightOf σ ((f_X8_number x1 x2) + 1))) + (f_X8_heightOf σ (f_X8_number x1 (x2 + 1))))]) F hI (c_X8_heightOf l D a cI F.2.2 σ ((f_X8_number x1 (x2 + 1)) + 1)) kb_X8_heightOf ki_X8_heightOf ks_X8_heightOf km_X0_61 ⟨Nat.le_of_ble_eq_true rfl, Nat.le_of_ble_eq_true rfl, rfl, rfl⟩ (by decide) gE_1 rfl hl.1 rfl (Nat.le_of_ble_eq_true rfl) ⟨Nat.zero_le _, Nat.zero_le _⟩ dX0_joinsLowCells_52 (fun H locs hI => ?_)
  refine lv_iadd hx hb dX0_joinsLowCells_55 ?_
  refine lv_istore (lv' := [(5, .int ((((f_X8_heightOf σ (f_X8_number x1 x2)) + (f_X8_heightOf σ ((f_X8_number x1 x2) + 1))) + (f_X8_heightOf σ (f_X8_number x1 (x2 + 1)))) + (f_X8_heightOf σ ((f_X8_number x1 (x2 + 1)) + 1)))), (4, .int (f_X8_number x1 (x2 + 1))), (3, .int (f_X8_number x1 x2)), (0, .ref (a 2)), (1, .int x1), (2, .int x2)]) hx hb dX0_joinsLowCells_56 hl (by decide) rfl (fun ls hl => ?_)
  refine lv_iload hx hb dX0_joinsLowCells_58 (lv_at hl 0 rfl) ?_
  refine lv_iconst (v := 4) hx hb dX0_joinsLowCells_60 (by decide) ?_
  refine lv_aload_n hx hb dX0_joinsLowCells_61 rfl (lv_at hl 3 rfl) ?_
  refine g_get F hI (by decide) gE_2 rfl ku_X0 4 (by decide) kf_X0_30 rfl dX0_joinsLowCells_62 ?_
  refine lv_imul hx hb dX0_joinsLowCells_65 ?_
  refine lv_icmp_lt (tgt := 73) hx hb dX0_joinsLowCells_66 (by decide) (fun c_66 => ?_) (fun c_66 => ?_)
  · have h := (if_pos c_66).symm.trans h
    refine lv_iconst (v := 0) hx hb dX0_joinsLowCells_73 (by decide) ?_
    subst h
    exact hq _ _ _ _ _ (show (0 : Int32) &&& 1 = 0 from by decide) hI dX0_joinsLowCells_74
  · have h := (if_neg c_66).symm.trans h
    refine lv_iconst (v := 1) hx hb dX0_joinsLowCells_69 (by decide) ?_
    refine lv_goto (tgt := 74) hx hb dX0_joinsLowCells_70 (by decide) ?_
    subst h
    exact hq _ _ _ _ _ (show (1 : Int32) &&& 1 = 1 from by decide) hI dX0_joinsLowCells_74
/-- Spurline$Contours.leaderOf(I)I -/
def f_X0_leaderOf (N : Nat) (σ : gSt) (x1 : Int32) : Option Int32 :=
  gLoop2 (fun self4 (v2_4 : Int32) (v3_4 : Int32) =>
    if 288 ≤ v3_4 then
      some v2_4
    else
      if gget σ 2 v2_4 = v2_4 then
        some v2_4
      else
        self4 (gget σ 2 v2_4) (v3_4 + 1)) N x1 0
abbrev rmX0_leaderOf : Room := { frames := 1, cells := 0, slots := 0, locals := 21 }
theorem kb_X0_leaderOf : g_CB yX0_leaderOf cX0_leaderOf 4 (some .int) 1 := ⟨kc_X0_leaderOf, kn_X0, by decide +kernel⟩
set_option maxRecDepth 100000 in
set_option maxHeartbeats 4000000 in
theorem c_X0_leaderOf (l : Launch) (D : va_G) (a : Nat → Nat) (cI : ClassId) (hj : g_Inj 65 a) (N : Nat) (σ : gSt) (x1 : Int32) (out : Int32) (hh : f_X0_leaderOf N σ x1 = some out) : Met l yX0_leaderOf (Cond.code yX0_leaderOf cX0_leaderOf 4 (some .int) :: gW) rmX0_leaderOf (g_Pc 65 D a (gE a cI σ) [(cI, .int)] [.ref (a 2), .int x1]) (g_Qi 65 D a (gE a cI σ) out) 0 0 (g_Own 65 a) := by
  refine g_meti (by decide) hj (Nat.le_of_ble_eq_true rfl) ?_
  intro p e s m args below meth c Q ls F hl hI hq
  have hx := F.1.1
  have hb := F.1.2.1
  have hl : lv_has ls 4 [(0, .ref (a 2)), (1, .int x1)] := hl
  have h := hh
  unfold f_X0_leaderOf at h
  refine lv_iload_n hx hb dX0_leaderOf_0 rfl (lv_at hl 1 rfl) ?_
  refine lv_istore_n (lv' := [(2, .int x1), (0, .ref (a 2)), (1, .int x1)]) hx hb dX0_leaderOf_1 rfl hl (by decide) rfl (fun ls hl => ?_)
  refine lv_iconst (v := 0) hx hb dX0_leaderOf_2 (by decide) ?_
  refine lv_istore_n (lv' := [(3, .int 0), (2, .int x1), (0, .ref (a 2)), (1, .int x1)]) hx hb dX0_leaderOf_3 rfl hl (by decide) rfl (fun ls hl => ?_)
  obtain ⟨lp4, hz4, hs4, h⟩ := gLoop2_in h
  have L4 : ∀ (n : Nat) (v2_4 : Int32) (v3_4 : Int32) (H : Heap) (locs : List Loc) (ls : Array Slot), lp4 n v2_4 v3_4 = some out → g_S 65 D a (gE a cI σ) s.heap H locs → lv_has ls 4 [(0, .ref (a 2)), (2, .int v2_4), (3, .int v3_4)] → W p l e rmX0_leaderOf s m args below meth c H locs 0 0 Q (F0 m 4 ls []) := by
    intro n
    induction n with
    | zero => intro v2_4 v3_4 H locs ls h; rw [hz4] at h; cases h
    | succ n ih4 =>
      intro v2_4 v3_4 H locs ls h hI hl
      rw [hs4] at h
      refine lv_iload_n hx hb dX0_leaderOf_4 rfl (lv_at hl 2 rfl) ?_
      refine lv_sipush (v := 288) hx hb dX0_leaderOf_5 (by decide) ?_
      refine lv_icmp_ge (tgt := 38) hx hb dX0_leaderOf_8 (by decide) (fun c_8 => ?_) (fun c_8 => ?_)
      · have h := (if_pos c_8).symm.trans h
        refine lv_iload_n hx hb dX0_leaderOf_38 rfl (lv_at hl 1 rfl) ?_
        have h := Option.some.inj h
        subst h
        exact hq _ _ _ _ hI dX0_leaderOf_39
      · have h := (if_neg c_8).symm.trans h
        refine lv_aload_n hx hb dX0_leaderOf_11 rfl (lv_at hl 0 rfl) ?_
        refine g_get F hI (by decide) gE_2 rfl ku_X0 1 (by decide) kf_X0_16 rfl dX0_leaderOf_12 ?_
        refine lv_iload_n hx hb dX0_leaderOf_15 rfl (lv_at hl 1 rfl) ?_
        refine g_rget F hI 2 (by decide) km_X0_46 ⟨Nat.le_of_ble_eq_true rfl, Nat.le_of_ble_eq_true rfl⟩ hl.1 (Nat.le_of_ble_eq_true rfl) ⟨Nat.zero_le _, Nat.zero_le _⟩ dX0_leaderOf_16 (fun H locs hI => ?_)
        refine lv_iload_n hx hb dX0_leaderOf_19 rfl (lv_at hl 1 rfl) ?_
        refine lv_icmp_eq (tgt := 38) hx hb dX0_leaderOf_20 (by decide) (fun c_20 => ?_) (fun c_20 => ?_)
        · have h := (if_pos c_20).symm.trans h
          refine lv_iload_n hx hb dX0_leaderOf_38 rfl (lv_at hl 1 rfl) ?_
          have h := Option.some.inj h
          subst h
          exact hq _ _ _ _ hI dX0_leaderOf_39
        · have h := (if_neg c_20).symm.trans h
          refine lv_aload_n hx hb dX0_leaderOf_23 rfl (lv_at hl 0 rfl) ?_
          refine g_get F hI (by decide) gE_2 rfl ku_X0 1 (by decide) kf_X0_16 rfl dX0_leaderOf_24 ?_
          refine lv_iload_n hx hb dX0_leaderOf_27 rfl (lv_at hl 1 rfl) ?_
          refine g_rget F hI 2 (by decide) km_X0_46 ⟨Nat.le_of_ble_eq_true rfl, Nat.le_of_ble_eq_true rfl⟩ hl.1 (Nat.le_of_ble_eq_true rfl) ⟨Nat.zero_le _, Nat.zero_le _⟩ dX0_leaderOf_28 (fun H locs hI => ?_)
          refine lv_istore_n (lv' := [(2, .int (gget σ 2 v2_4)), (0, .ref (a 2)), (3, .int v3_4)]) hx hb dX0_leaderOf_31 rfl hl (by decide) rfl (fun ls hl => ?_)
          refine lv_iinc (v := v3_4 + 1) (lv' := [(3, .int (v3_4 + 1)), (2, .int (gget σ 2 v2_4)), (0, .ref (a 2))]) hx hb dX0_leaderOf_32 hl (k := 2) rfl rfl (by decide) rfl (fun ls hl => ?_)
          refine lv_goto (tgt := 4) hx hb dX0_leaderOf_35 (by decide) ?_
          exact ih4 _ _ _ _ _ h hI (lv_sub hl [2, 1, 0] rfl)
  exact L4 _ _ _ _ _ _ h hI (lv_sub hl [2, 1, 0] rfl)
/-- Spurline$Contours.join(II)V -/
def f_X0_join (N : Nat) (σ : gSt) (x1 x2 : Int32) : Option gSt :=
  if f_X0_isGap σ x1 = 0 then
    some σ
  else
    if f_X0_isGap σ x2 = 0 then
      some σ
    else
      (f_X0_leaderOf N σ x1).bind (fun (r_22 : Int32) =>
      (f_X0_leaderOf N σ x2).bind (fun (r_27 : Int32) =>
      some (gput σ 2 r_22 r_27)))
abbrev rmX0_join : Room := { frames := 2, cells := 0, slots := 0, locals := 44 }
theorem kb_X0_join : g_CB yX0_join cX0_join 3 none 2 := ⟨kc_X0_join, kn_X0, by decide +kernel⟩
set_option maxRecDepth 100000 in
set_option maxHeartbeats 4000000 in
theorem c_X0_join (l : Launch) (D : va_G) (a : Nat → Nat) (cI : ClassId) (hj : g_Inj 65 a) (N : Nat) (σ : gSt) (x1 x2 : Int32) (out : gSt) (hh : f_X0_join N σ x1 x2 = some out) : Met l yX0_join (Cond.code yX0_join cX0_join 3 none :: gW) rmX0_join (g_Pc 65 D a (gE a cI σ) [(cI, .int)] [.ref (a 2), .int x1, .int x2]) (g_Qv 65 D a (gE a cI out)) 0 0 (g_Own 65 a) := by
  refine g_metv (by decide) hj (Nat.le_of_ble_eq_true rfl) ?_
  intro p e s m args below meth c Q ls F hl hI hq
  have hx := F.1.1
  have hb := F.1.2.1
  have hl : lv_has ls 3 [(0, .ref (a 2)), (1, .int x1), (2, .int x2)] := hl
  have h := hh
  unfold f_X0_join at h
  refine lv_aload_n hx hb dX0_join_0 rfl (lv_at hl 0 rfl) ?_
  refine lv_iload_n hx hb dX0_join_1 rfl (lv_at hl 1 rfl) ?_
  refine g_callVi (E' := gE a cI σ) (k0 := 2) (As := [.int x1]) (rest := []) F hI (c_X0_isGap l D a cI F.2.2 σ x1) kb_X0_isGap ki_X0_isGap ks_X0_isGap km_X0_91 ⟨Nat.le_of_ble_eq_true rfl, Nat.le_of_ble_eq_true rfl, rfl, rfl⟩ (by decide) gE_2 rfl hl.1 rfl (Nat.le_of_ble_eq_true rfl) ⟨Nat.zero_le _, Nat.zero_le _⟩ dX0_join_2 (fun H locs hI => ?_)
  refine lv_if_eq (tgt := 33) hx hb dX0_join_5 (by decide) (fun c_5 => ?_) (fun c_5 => ?_)
  · have h := (if_pos c_5).symm.trans h
    have h := Option.some.inj h
    subst h
    exact hq _ _ _ _ hI dX0_join_33
  · have h := (if_neg c_5).symm.trans h
    refine lv_aload_n hx hb dX0_join_8 rfl (lv_at hl 0 rfl) ?_
    refine lv_iload_n hx hb dX0_join_9 rfl (lv_at hl 2 rfl) ?_
    refine g_callVi (E' := gE a cI σ) (k0 := 2) (As := [.int x2]) (rest := []) F hI (c_X0_isGap l D a cI F.2.2 σ x2) kb_X0_isGap ki_X0_isGap ks_X0_isGap km_X0_91 ⟨Nat.le_of_ble_eq_true rfl, Nat.le_of_ble_eq_true rfl, rfl, rfl⟩ (by decide) gE_2 rfl hl.1 rfl (Nat.le_of_ble_eq_true rfl) ⟨Nat.zero_le _, Nat.zero_le _⟩ dX0_join_10 (fun H locs hI => ?_)
    refine lv_if_eq (tgt := 33) hx hb dX0_join_13 (by decide) (fun c_13 => ?_) (fun c_13 => ?_)
    · have h := (if_pos c_13).symm.trans h
      have h := Option.some.inj h
      subst h
      exact hq _ _ _ _ hI dX0_join_33
    · have h := (if_neg c_13).symm.trans h
      refine lv_aload_n hx hb dX0_join_16 rfl (lv_at hl 0 rfl) ?_
      refine g_get F hI (by decide) gE_2 rfl ku_X0 1 (by decide) kf_X0_16 rfl dX0_join_17 ?_
      refine lv_aload_n hx hb dX0_join_20 rfl (lv_at hl 0 rfl) ?_
      refine lv_iload_n hx hb dX0_join_21 rfl (lv_at hl 1 rfl) ?_
      obtain ⟨r_22, e_22, h⟩ := gBind_in h
      refine g_callVi (E' := gE a cI σ) (k0 := 2) (As := [.int x1]) (rest := [.ref (a 11)]) F hI (c_X0_leaderOf l D a cI F.2.2 N σ x1 r_22 e_22) kb_X0_leaderOf ki_X0_leaderOf ks_X0_leaderOf km_X0_101 ⟨Nat.le_of_ble_eq_true rfl, Nat.le_of_ble_eq_true rfl, rfl, rfl⟩ (by decide) gE_2 rfl hl.1 rfl (Nat.le_of_ble_eq_true rfl) ⟨Nat.zero_le _, Nat.zero_le _⟩ dX0_join_22 (fun H locs hI => ?_)
      refine lv_aload_n hx hb dX0_join_25 rfl (lv_at hl 0 rfl) ?_
      refine lv_iload_n hx hb dX0_join_26 rfl (lv_at hl 2 rfl) ?_
      obtain ⟨r_27, e_27, h⟩ := gBind_in h
      refine g_callVi (E' := gE a cI σ) (k0 := 2) (As := [.int x2]) (rest := [.int r_22, .ref (a 11)]) F hI (c_X0_leaderOf l D a cI F.2.2 N σ x2 r_27 e_27) kb_X0_leaderOf ki_X0_leaderOf ks_X0_leaderOf km_X0_101 ⟨Nat.le_of_ble_eq_true rfl, Nat.le_of_ble_eq_true rfl, rfl, rfl⟩ (by decide) gE_2 rfl hl.1 rfl (Nat.le_of_ble_eq_true rfl) ⟨Nat.zero_le _, Nat.zero_le _⟩ dX0_join_27 (fun H locs hI => ?_)
      refine g_rput F hI 2 (by decide) km_X0_81 ⟨Nat.le_of_ble_eq_true rfl, Nat.le_of_ble_eq_true rfl⟩ hl.1 (Nat.le_of_ble_eq_true rfl) ⟨Nat.zero_le _, Nat.zero_le _⟩ dX0_join_30 (fun H locs hI => ?_)
      have h := Option.some.inj h
      subst h
      exact hq _ _ _ _ hI dX0_join_33
/-- Spurline$Contours.joinInSquare(II)V -/
def f_X0_joinInSquare (N : Nat) (σ : gSt) (x1 x2 : Int32) : Option gSt :=
  gJoin0 (
      (f_X0_join N σ (f_X0_gapToTheRight x1 x2) (f_X0_gapToTheRight x1 (x2 + 1))).bind (fun (s_119 : gSt) =>
      (f_X0_join N s_119 (f_X0_gapToTheRight x1 x2) (f_X0_gapBelow x1 x2)).bind (fun (s_126 : gSt) =>
      (f_X0_join N s_126 (f_X0_gapToTheRight x1 x2) (f_X0_gapBelow (x1 + 1) x2)).bind (fun (s_133 : gSt) =>
      (f_X0_join N s_133 (f_X0_gapToTheRight x1 (x2 + 1)) (f_X0_gapBelow x1 x2)).bind (fun (s_141 : gSt) =>
      (f_X0_join N s_141 (f_X0_gapToTheRight x1 (x2 + 1)) (f_X0_gapBelow (x1 + 1) x2)).bind (fun (s_149 : gSt) =>
      (f_X0_join N s_149 (f_X0_gapBelow x1 x2) (f_X0_gapBelow (x1 + 1) x2)).bind (fun (s_157 : gSt) =>
      some s_157))))))) (fun j115 =>
    if f_X0_isGap σ (f_X0_gapToTheRight x1 x2) = 0 then
      j115
    else
      if f_X0_isGap σ (f_X0_gapToTheRight x1 (x2 + 1)) = 0 then
        j115
      else
        if f_X0_isGap σ (f_X0_gapBelow x1 x2) = 0 then
          j115
        else
          if f_X0_isGap σ (f_X0_gapBelow (x1 + 1) x2) = 0 then
            j115
          else
            if f_X0_isHigh σ x1 x2 = f_X0_joinsLowCells σ x1 x2 then
              (f_X0_join N σ (f_X0_gapToTheRight x1 x2) (f_X0_gapBelow (x1 + 1) x2)).bind (fun (s_103 : gSt) =>
              (f_X0_join N s_103 (f_X0_gapToTheRight x1 (x2 + 1)) (f_X0_gapBelow x1 x2)).bind (fun (s_111 : gSt) =>
              some s_111))
            else
              (f_X0_join N σ (f_X0_gapToTheRight x1 x2) (f_X0_gapBelow x1 x2)).bind (fun (s_85 : gSt) =>
              (f_X0_join N s_85 (f_X0_gapToTheRight x1 (x2 + 1)) (f_X0_gapBelow (x1 + 1) x2)).bind (fun (s_93 : gSt) =>
              some s_93)))
abbrev rmX0_joinInSquare : Room := { frames := 3, cells := 0, slots := 0, locals := 67 }
theorem kb_X0_joinInSquare : g_CB yX0_joinInSquare cX0_joinInSquare 7 none 2 := ⟨kc_X0_joinInSquare, kn_X0, by decide +kernel⟩
set_option maxRecDepth 100000 in
set_option maxHeartbeats 4000000 in
theorem c_X0_joinInSquare (l : Launch) (D : va_G) (a : Nat → Nat) (cI : ClassId) (hj : g_Inj 65 a) (N : Nat) (σ : gSt) (x1 x2 : Int32) (out : gSt) (hh : f_X0_joinInSquare N σ x1 x2 = some out) : Met l yX0_joinInSquare (Cond.code yX0_joinInSquare cX0_joinInSquare 7 none :: gW) rmX0_joinInSquare (g_Pc 65 D a (gE a cI σ) [(cI, .int)] [.ref (a 2), .int x1, .int x2]) (g_Qv 65 D a (gE a cI out)) 0 0 (g_Own 65 a) := by
  refine g_metv (by decide) hj (Nat.le_of_ble_eq_true rfl) ?_
  intro p e s m args below meth c Q ls F hl hI hq
  have hx := F.1.1
  have hb := F.1.2.1
  have hl : lv_has ls 7 [(0, .ref (a 2)), (1, .int x1), (2, .int x2)] := hl
  have h := hh
  unfold f_X0_joinInSquare at h
  refine lv_iload_n hx hb dX0_joinInSquare_0 rfl (lv_at hl 1 rfl) ?_
  refine lv_iload_n hx hb dX0_joinInSquare_1 rfl (lv_at hl 2 rfl) ?_
  refine g_callSi (E' := gE a cI σ) (As := [.int x1, .int x2]) (rest := []) F hI (c_X0_gapToTheRight l D a cI F.2.2 σ x1 x2) kb_X0_gapToTheRight kt_X0_gapToTheRight km_X0_78 ⟨Nat.le_of_ble_eq_true rfl, Nat.le_of_ble_eq_true rfl, rfl, rfl⟩ hl.1 rfl (Nat.le_of_ble_eq_true rfl) ⟨Nat.zero_le _, Nat.zero_le _⟩ dX0_joinInSquare_2 (fun H locs hI => ?_)
  refine lv_istore_n (lv' := [(3, .int (f_X0_gapToTheRight x1 x2)), (0, .ref (a 2)), (1, .int x1), (2, .int x2)]) hx hb dX0_joinInSquare_5 rfl hl (by decide) rfl (fun ls hl => ?_)
  refine lv_iload_n hx hb dX0_joinInSquare_6 rfl (lv_at hl 2 rfl) ?_
  refine lv_iload_n hx hb dX0_joinInSquare_7 rfl (lv_at hl 3 rfl) ?_
  refine lv_iconst (v := 1) hx hb dX0_joinInSquare_8 (by decide) ?_
  refine lv_iadd hx hb dX0_joinInSquare_9 ?_
  refine g_callSi (E' := gE a cI σ) (As := [.int x1, .int (x2 + 1)]) (rest := []) F hI (c_X0_gapToTheRight l D a cI F.2.2 σ x1 (x2 + 1)) kb_X0_gapToTheRight kt_X0_gapToTheRight km_X0_78 ⟨Nat.le_of_ble_eq_true rfl, Nat.le_of_ble_eq_true rfl, rfl, rfl⟩ hl.1 rfl (Nat.le_of_ble_eq_true rfl) ⟨Nat.zero_le _, Nat.zero_le _⟩ dX0_joinInSquare_10 (fun H locs hI => ?_)
  refine lv_istore (lv' := [(4, .int (f_X0_gapToTheRight x1 (x2 + 1))), (3, .int (f_X0_gapToTheRight x1 x2)), (0, .ref (a 2)), (1, .int x1), (2, .int x2)]) hx hb dX0_joinInSquare_13 hl (by decide) rfl (fun ls hl => ?_)
  refine lv_iload_n hx hb dX0_joinInSquare_15 rfl (lv_at hl 3 rfl) ?_
  refine lv_iload_n hx hb dX0_joinInSquare_16 rfl (lv_at hl 4 rfl) ?_
  refine g_callSi (E' := gE a cI σ) (As := [.int x1, .int x2]) (rest := []) F hI (c_X0_gapBelow l D a cI F.2.2 σ x1 x2) kb_X0_gapBelow kt_X0_gapBelow km_X0_85 ⟨Nat.le_of_ble_eq_true rfl, Nat.le_of_ble_eq_true rfl, rfl, rfl⟩ hl.1 rfl (Nat.le_of_ble_eq_true rfl) ⟨Nat.zero_le _, Nat.zero_le _⟩ dX0_joinInSquare_17 (fun H locs hI => ?_)
  refine lv_istore (lv' := [(5, .int (f_X0_gapBelow x1 x2)), (4, .int (f_X0_gapToTheRight x1 (x2 + 1))), (3, .int (f_X0_gapToTheRight x1 x2)), (0, .ref (a 2)), (1, .int x1), (2, .int x2)]) hx hb dX0_joinInSquare_20 hl (by decide) rfl (fun ls hl => ?_)
  refine lv_iload_n hx hb dX0_joinInSquare_22 rfl (lv_at hl 4 rfl) ?_
  refine lv_iconst (v := 1) hx hb dX0_joinInSquare_23 (by decide) ?_
  refine lv_iadd hx hb dX0_joinInSquare_24 ?_
  refine lv_iload_n hx hb dX0_joinInSquare_25 rfl (lv_at hl 5 rfl) ?_
  refine g_callSi (E' := gE a cI σ) (As := [.int (x1 + 1), .int x2]) (rest := []) F hI (c_X0_gapBelow l D a cI F.2.2 σ (x1 + 1) x2) kb_X0_gapBelow kt_X0_gapBelow km_X0_85 ⟨Nat.le_of_ble_eq_true rfl, Nat.le_of_ble_eq_true rfl, rfl, rfl⟩ hl.1 rfl (Nat.le_of_ble_eq_true rfl) ⟨Nat.zero_le _, Nat.zero_le _⟩ dX0_joinInSquare_26 (fun H locs hI => ?_)
  refine lv_istore (lv' := [(6, .int (f_X0_gapBelow (x1 + 1) x2)), (5, .int (f_X0_gapBelow x1 x2)), (4, .int (f_X0_gapToTheRight x1 (x2 + 1))), (3, .int (f_X0_gapToTheRight x1 x2)), (0, .ref (a 2)), (1, .int x1), (2, .int x2)]) hx hb dX0_joinInSquare_29 hl (by decide) rfl (fun ls hl => ?_)
  refine lv_aload_n hx hb dX0_joinInSquare_31 rfl (lv_at hl 4 rfl) ?_
  refine lv_iload_n hx hb dX0_joinInSquare_32 rfl (lv_at hl 3 rfl) ?_
  refine g_callVi (E' := gE a cI σ) (k0 := 2) (As := [.int (f_X0_gapToTheRight x1 x2)]) (rest := []) F hI (c_X0_isGap l D a cI F.2.2 σ (f_X0_gapToTheRight x1 x2)) kb_X0_isGap ki_X0_isGap ks_X0_isGap km_X0_91 ⟨Nat.le_of_ble_eq_true rfl, Nat.le_of_ble_eq_true rfl, rfl, rfl⟩ (by decide) gE_2 rfl hl.1 rfl (Nat.le_of_ble_eq_true rfl) ⟨Nat.zero_le _, Nat.zero_le _⟩ dX0_joinInSquare_33 (fun H locs hI => ?_)
  obtain ⟨j115, hj115, h⟩ := gJoin0_in h
  have J115 : ∀ (H : Heap) (locs : List Loc) (ls : Array Slot), j115  = some out → g_S 65 D a (gE a cI σ) s.heap H locs → lv_has ls 7 [(0, .ref (a 2)), (3, .int (f_X0_gapToTheRight x1 x2)), (4, .int (f_X0_gapToTheRight x1 (x2 + 1))), (5, .int (f_X0_gapBelow x1 x2)), (6, .int (f_X0_gapBelow (x1 + 1) x2))] → W p l e rmX0_joinInSquare s m args below meth c H locs 0 0 Q (F0 m 115 ls []) := by
    intro  H locs ls h hI hl
    rw [hj115] at h
    refine lv_aload_n hx hb dX0_joinInSquare_115 rfl (lv_at hl 0 rfl) ?_
    refine lv_iload_n hx hb dX0_joinInSquare_116 rfl (lv_at hl 1 rfl) ?_
    refine lv_iload hx hb dX0_joinInSquare_117 (lv_at hl 2 rfl) ?_
    obtain ⟨s_119, e_119, h⟩ := gBind_in h
    refine g_callVv (E' := gE a cI s_119) (k0 := 2) (As := [.int (f_X0_gapToTheRight x1 x2), .int (f_X0_gapToTheRight x1 (x2 + 1))]) (rest := []) F hI (c_X0_join l D a cI F.2.2 N σ (f_X0_gapToTheRight x1 x2) (f_X0_gapToTheRight x1 (x2 + 1)) s_119 e_119) kb_X0_join ki_X0_join ks_X0_join km_X0_98 ⟨Nat.le_of_ble_eq_true rfl, Nat.le_of_ble_eq_true rfl, rfl, rfl⟩ (by decide) gE_2 rfl hl.1 rfl (Nat.le_of_ble_eq_true rfl) ⟨Nat.zero_le _, Nat.zero_le _⟩ dX0_joinInSquare_119 (fun H locs hI => ?_)
    refine lv_aload_n hx hb dX0_joinInSquare_122 rfl (lv_at hl 0 rfl) ?_
    refine lv_iload_n hx hb dX0_joinInSquare_123 rfl (lv_at hl 1 rfl) ?_
    refine lv_iload hx hb dX0_joinInSquare_124 (lv_at hl 3 rfl) ?_
    obtain ⟨s_126, e_126, h⟩ := gBind_in h
    refine g_callVv (E' := gE a cI s_126) (k0 := 2) (As := [.int (f_X0_gapToTheRight x1 x2), .int (f_X0_gapBelow x1 x2)]) (rest := []) F hI (c_X0_join l D a cI F.2.2 N s_119 (f_X0_gapToTheRight x1 x2) (f_X0_gapBelow x1 x2) s_126 e_126) kb_X0_join ki_X0_join ks_X0_join km_X0_98 ⟨Nat.le_of_ble_eq_true rfl, Nat.le_of_ble_eq_true rfl, rfl, rfl⟩ (by decide) gE_2 rfl hl.1 rfl (Nat.le_of_ble_eq_true rfl) ⟨Nat.zero_le _, Nat.zero_le _⟩ dX0_joinInSquare_126 (fun H locs hI => ?_)
    refine lv_aload_n hx hb dX0_joinInSquare_129 rfl (lv_at hl 0 rfl) ?_
    refine lv_iload_n hx hb dX0_joinInSquare_130 rfl (lv_at hl 1 rfl) ?_
    refine lv_iload hx hb dX0_joinInSquare_131 (lv_at hl 4 rfl) ?_
    obtain ⟨s_133, e_133, h⟩ := gBind_in h
    refine g_callVv (E' := gE a cI s_133) (k0 := 2) (As := [.int (f_X0_gapToTheRight x1 x2), .int (f_X0_gapBelow (x1 + 1) x2)]) (rest := []) F hI (c_X0_join l D a cI F.2.2 N s_126 (f_X0_gapToTheRight x1 x2) (f_X0_gapBelow (x1 + 1) x2) s_133 e_133) kb_X0_join ki_X0_join ks_X0_join km_X0_98 ⟨Nat.le_of_ble_eq_true rfl, Nat.le_of_ble_eq_true rfl, rfl, rfl⟩ (by decide) gE_2 rfl hl.1 rfl (Nat.le_of_ble_eq_true rfl) ⟨Nat.zero_le _, Nat.zero_le _⟩ dX0_joinInSquare_133 (fun H locs hI => ?_)
    refine lv_aload_n hx hb dX0_joinInSquare_136 rfl (lv_at hl 0 rfl) ?_
    refine lv_iload hx hb dX0_joinInSquare_137 (lv_at hl 2 rfl) ?_
    refine lv_iload hx hb dX0_joinInSquare_139 (lv_at hl 3 rfl) ?_
    obtain ⟨s_141, e_141, h⟩ := gBind_in h
    refine g_callVv (E' := gE a cI s_141) (k0 := 2) (As := [.int (f_X0_gapToTheRight x1 (x2 + 1)), .int (f_X0_gapBelow x1 x2)]) (rest := []) F hI (c_X0_join l D a cI F.2.2 N s_133 (f_X0_gapToTheRight x1 (x2 + 1)) (f_X0_gapBelow x1 x2) s_141 e_141) kb_X0_join ki_X0_join ks_X0_join km_X0_98 ⟨Nat.le_of_ble_eq_true rfl, Nat.le_of_ble_eq_true rfl, rfl, rfl⟩ (by decide) gE_2 rfl hl.1 rfl (Nat.le_of_ble_eq_true rfl) ⟨Nat.zero_le _, Nat.zero_le _⟩ dX0_joinInSquare_141 (fun H locs hI => ?_)
    refine lv_aload_n hx hb dX0_joinInSquare_144 rfl (lv_at hl 0 rfl) ?_
    refine lv_iload hx hb dX0_joinInSquare_145 (lv_at hl 2 rfl) ?_
    refine lv_iload hx hb dX0_joinInSquare_147 (lv_at hl 4 rfl) ?_
    obtain ⟨s_149, e_149, h⟩ := gBind_in h
    refine g_callVv (E' := gE a cI s_149) (k0 := 2) (As := [.int (f_X0_gapToTheRight x1 (x2 + 1)), .int (f_X0_gapBelow (x1 + 1) x2)]) (rest := []) F hI (c_X0_join l D a cI F.2.2 N s_141 (f_X0_gapToTheRight x1 (x2 + 1)) (f_X0_gapBelow (x1 + 1) x2) s_149 e_149) kb_X0_join ki_X0_join ks_X0_join km_X0_98 ⟨Nat.le_of_ble_eq_true rfl, Nat.le_of_ble_eq_true rfl, rfl, rfl⟩ (by decide) gE_2 rfl hl.1 rfl (Nat.le_of_ble_eq_true rfl) ⟨Nat.zero_le _, Nat.zero_le _⟩ dX0_joinInSquare_149 (fun H locs hI => ?_)
    refine lv_aload_n hx hb dX0_joinInSquare_152 rfl (lv_at hl 0 rfl) ?_
    refine lv_iload hx hb dX0_joinInSquare_153 (lv_at hl 3 rfl) ?_
    refine lv_iload hx hb dX0_joinInSquare_155 (lv_at hl 4 rfl) ?_
    obtain ⟨s_157, e_157, h⟩ := gBind_in h
    refine g_callVv (E' := gE a cI s_157) (k0 := 2) (As := [.int (f_X0_gapBelow x1 x2), .int (f_X0_gapBelow (x1 + 1) x2)]) (rest := []) F hI (c_X0_join l D a cI F.2.2 N s_149 (f_X0_gapBelow x1 x2) (f_X0_gapBelow (x1 + 1) x2) s_157 e_157) kb_X0_join ki_X0_join ks_X0_join km_X0_98 ⟨Nat.le_of_ble_eq_true rfl, Nat.le_of_ble_eq_true rfl, rfl, rfl⟩ (by decide) gE_2 rfl hl.1 rfl (Nat.le_of_ble_eq_true rfl) ⟨Nat.zero_le _, Nat.zero_le _⟩ dX0_joinInSquare_157 (fun H locs hI => ?_)
    have h := Option.some.inj h
    subst h
    exact hq _ _ _ _ hI dX0_joinInSquare_160
  refine lv_if_eq (tgt := 115) hx hb dX0_joinInSquare_36 (by decide) (fun c_36 => ?_) (fun c_36 => ?_)
  · have h := (if_pos c_36).symm.trans h
    exact J115 _ _ _ h hI (lv_sub hl [4, 3, 2, 1, 0] rfl)
  · have h := (if_neg c_36).symm.trans h
    refine lv_aload_n hx hb dX0_joinInSquare_39 rfl (lv_at hl 4 rfl) ?_
    refine lv_iload hx hb dX0_joinInSquare_40 (lv_at hl 2 rfl) ?_
    refine g_callVi (E' := gE a cI σ) (k0 := 2) (As := [.int (f_X0_gapToTheRight x1 (x2 + 1))]) (rest := []) F hI (c_X0_isGap l D a cI F.2.2 σ (f_X0_gapToTheRight x1 (x2 + 1))) kb_X0_isGap ki_X0_isGap ks_X0_isGap km_X0_91 ⟨Nat.le_of_ble_eq_true rfl, Nat.le_of_ble_eq_true rfl, rfl, rfl⟩ (by decide) gE_2 rfl hl.1 rfl (Nat.le_of_ble_eq_true rfl) ⟨Nat.zero_le _, Nat.zero_le _⟩ dX0_joinInSquare_42 (fun H locs hI => ?_)
    refine lv_if_eq (tgt := 115) hx hb dX0_joinInSquare_45 (by decide) (fun c_45 => ?_) (fun c_45 => ?_)
    · have h := (if_pos c_45).symm.trans h
      exact J115 _ _ _ h hI (lv_sub hl [4, 3, 2, 1, 0] rfl)
    · have h := (if_neg c_45).symm.trans h
      refine lv_aload_n hx hb dX0_joinInSquare_48 rfl (lv_at hl 4 rfl) ?_
      refine lv_iload hx hb dX0_joinInSquare_49 (lv_at hl 1 rfl) ?_
      refine g_callVi (E' := gE a cI σ) (k0 := 2) (As := [.int (f_X0_gapBelow x1 x2)]) (rest := []) F hI (c_X0_isGap l D a cI F.2.2 σ (f_X0_gapBelow x1 x2)) kb_X0_isGap ki_X0_isGap ks_X0_isGap km_X0_91 ⟨Nat.le_of_ble_eq_true rfl, Nat.le_of_ble_eq_true rfl, rfl, rfl⟩ (by decide) gE_2 rfl hl.1 rfl (Nat.le_of_ble_eq_true rfl) ⟨Nat.zero_le _, Nat.zero_le _⟩ dX0_joinInSquare_51 (fun H locs hI => ?_)
      refine lv_if_eq (tgt := 115) hx hb dX0_joinInSquare_54 (by decide) (fun c_54 => ?_) (fun c_54 => ?_)
      · have h := (if_pos c_54).symm.trans h
        exact J115 _ _ _ h hI (lv_sub hl [4, 3, 2, 1, 0] rfl)
      · have h := (if_neg c_54).symm.trans h
        refine lv_aload_n hx hb dX0_joinInSquare_57 rfl (lv_at hl 4 rfl) ?_
        refine lv_iload hx hb dX0_joinInSquare_58 (lv_at hl 0 rfl) ?_
        refine g_callVi (E' := gE a cI σ) (k0 := 2) (As := [.int (f_X0_gapBelow (x1 + 1) x2)]) (rest := []) F hI (c_X0_isGap l D a cI F.2.2 σ (f_X0_gapBelow (x1 + 1) x2)) kb_X0_isGap ki_X0_isGap ks_X0_isGap km_X0_91 ⟨Nat.le_of_ble_eq_true rfl, Nat.le_of_ble_eq_true rfl, rfl, rfl⟩ (by decide) gE_2 rfl hl.1 rfl (Nat.le_of_ble_eq_true rfl) ⟨Nat.zero_le _, Nat.zero_le _⟩ dX0_joinInSquare_60 (fun H locs hI => ?_)
        refine lv_if_eq (tgt := 115) hx hb dX0_joinInSquare_63 (by decide) (fun c_63 => ?_) (fun c_63 => ?_)
        · have h := (if_pos c_63).symm.trans h
          exact J115 _ _ _ h hI (lv_sub hl [4, 3, 2, 1, 0] rfl)
        · have h := (if_neg c_63).symm.trans h
          refine lv_aload_n hx hb dX0_joinInSquare_66 rfl (lv_at hl 4 rfl) ?_
          refine lv_iload_n hx hb dX0_joinInSquare_67 rfl (lv_at hl 5 rfl) ?_
          refine lv_iload_n hx hb dX0_joinInSquare_68 rfl (lv_at hl 6 rfl) ?_
          refine g_callVi (E' := gE a cI σ) (k0 := 2) (As := [.int x1, .int x2]) (rest := []) F hI (c_X0_isHigh l D a cI F.2.2 σ x1 x2) kb_X0_isHigh ki_X0_isHigh ks_X0_isHigh km_X0_71 ⟨Nat.le_of_ble_eq_true rfl, Nat.le_of_ble_eq_true rfl, rfl, rfl⟩ (by decide) gE_2 rfl hl.1 rfl (Nat.le_of_ble_eq_true rfl) ⟨Nat.zero_le _, Nat.zero_le _⟩ dX0_joinInSquare_69 (fun H locs hI => ?_)
          refine lv_aload_n hx hb dX0_joinInSquare_72 rfl (lv_at hl 4 rfl) ?_
          refine lv_iload_n hx hb dX0_joinInSquare_73 rfl (lv_at hl 5 rfl) ?_
          refine lv_iload_n hx hb dX0_joinInSquare_74 rfl (lv_at hl 6 rfl) ?_
          refine g_callVi (E' := gE a cI σ) (k0 := 2) (As := [.int x1, .int x2]) (rest := [.int (f_X0_isHigh σ x1 x2)]) F hI (c_X0_joinsLowCells l D a cI F.2.2 σ x1 x2) kb_X0_joinsLowCells ki_X0_joinsLowCells ks_X0_joinsLowCells km_X0_95 ⟨Nat.le_of_ble_eq_true rfl, Nat.le_of_ble_eq_true rfl, rfl, rfl⟩ (by decide) gE_2 rfl hl.1 rfl (Nat.le_of_ble_eq_true rfl) ⟨Nat.zero_le _, Nat.zero_le _⟩ dX0_joinInSquare_75 (fun H locs hI => ?_)
          refine lv_icmp_eq (tgt := 99) hx hb dX0_joinInSquare_78 (by decide) (fun c_78 => ?_) (fun c_78 => ?_)
          · have h := (if_pos c_78).symm.trans h
            refine lv_aload_n hx hb dX0_joinInSquare_99 rfl (lv_at hl 4 rfl) ?_
            refine lv_iload_n hx hb dX0_joinInSquare_100 rfl (lv_at hl 3 rfl) ?_
            refine lv_iload hx hb dX0_joinInSquare_101 (lv_at hl 0 rfl) ?_
            obtain ⟨s_103, e_103, h⟩ := gBind_in h
            refine g_callVv (E' := gE a cI s_103) (k0 := 2) (As := [.int (f_X0_gapToTheRight x1 x2), .int (f_X0_gapBelow (x1 + 1) x2)]) (rest := []) F hI (c_X0_join l D a cI F.2.2 N σ (f_X0_gapToTheRight x1 x2) (f_X0_gapBelow (x1 + 1) x2) s_103 e_103) kb_X0_join ki_X0_join ks_X0_join km_X0_98 ⟨Nat.le_of_ble_eq_true rfl, Nat.le_of_ble_eq_true rfl, rfl, rfl⟩ (by decide) gE_2 rfl hl.1 rfl (Nat.le_of_ble_eq_true rfl) ⟨Nat.zero_le _, Nat.zero_le _⟩ dX0_joinInSquare_103 (fun H locs hI => ?_)
            refine lv_aload_n hx hb dX0_joinInSquare_106 rfl (lv_at hl 4 rfl) ?_
            refine lv_iload hx hb dX0_joinInSquare_107 (lv_at hl 2 rfl) ?_
            refine lv_iload hx hb dX0_joinInSquare_109 (lv_at hl 1 rfl) ?_
            obtain ⟨s_111, e_111, h⟩ := gBind_in h
            refine g_callVv (E' := gE a cI s_111) (k0 := 2) (As := [.int (f_X0_gapToTheRight x1 (x2 + 1)), .int (f_X0_gapBelow x1 x2)]) (rest := []) F hI (c_X0_join l D a cI F.2.2 N s_103 (f_X0_gapToTheRight x1 (x2 + 1)) (f_X0_gapBelow x1 x2) s_111 e_111) kb_X0_join ki_X0_join ks_X0_join km_X0_98 ⟨Nat.le_of_ble_eq_true rfl, Nat.le_of_ble_eq_true rfl, rfl, rfl⟩ (by decide) gE_2 rfl hl.1 rfl (Nat.le_of_ble_eq_true rfl) ⟨Nat.zero_le _, Nat.zero_le _⟩ dX0_joinInSquare_111 (fun H locs hI => ?_)
            have h := Option.some.inj h
            subst h
            exact hq _ _ _ _ hI dX0_joinInSquare_114
          · have h := (if_neg c_78).symm.trans h
            refine lv_aload_n hx hb dX0_joinInSquare_81 rfl (lv_at hl 4 rfl) ?_
            refine lv_iload_n hx hb dX0_joinInSquare_82 rfl (lv_at hl 3 rfl) ?_
            refine lv_iload hx hb dX0_joinInSquare_83 (lv_at hl 1 rfl) ?_
            obtain ⟨s_85, e_85, h⟩ := gBind_in h
            refine g_callVv (E' := gE a cI s_85) (k0 := 2) (As := [.int (f_X0_gapToTheRight x1 x2), .int (f_X0_gapBelow x1 x2)]) (rest := []) F hI (c_X0_join l D a cI F.2.2 N σ (f_X0_gapToTheRight x1 x2) (f_X0_gapBelow x1 x2) s_85 e_85) kb_X0_join ki_X0_join ks_X0_join km_X0_98 ⟨Nat.le_of_ble_eq_true rfl, Nat.le_of_ble_eq_true rfl, rfl, rfl⟩ (by decide) gE_2 rfl hl.1 rfl (Nat.le_of_ble_eq_true rfl) ⟨Nat.zero_le _, Nat.zero_le _⟩ dX0_joinInSquare_85 (fun H locs hI => ?_)
            refine lv_aload_n hx hb dX0_joinInSquare_88 rfl (lv_at hl 4 rfl) ?_
            refine lv_iload hx hb dX0_joinInSquare_89 (lv_at hl 2 rfl) ?_
            refine lv_iload hx hb dX0_joinInSquare_91 (lv_at hl 0 rfl) ?_
            obtain ⟨s_93, e_93, h⟩ := gBind_in h
            refine g_callVv (E' := gE a cI s_93) (k0 := 2) (As := [.int (f_X0_gapToTheRight x1 (x2 + 1)), .int (f_X0_gapBelow (x1 + 1) x2)]) (rest := []) F hI (c_X0_join l D a cI F.2.2 N s_85 (f_X0_gapToTheRight x1 (x2 + 1)) (f_X0_gapBelow (x1 + 1) x2) s_93 e_93) kb_X0_join ki_X0_join ks_X0_join km_X0_98 ⟨Nat.le_of_ble_eq_true rfl, Nat.le_of_ble_eq_true rfl, rfl, rfl⟩ (by decide) gE_2 rfl hl.1 rfl (Nat.le_of_ble_eq_true rfl) ⟨Nat.zero_le _, Nat.zero_le _⟩ dX0_joinInSquare_93 (fun H locs hI => ?_)
            refine lv_goto (tgt := 114) hx hb dX0_joinInSquare_96 (by decide) ?_
            have h := Option.some.inj h
            subst h
            exact hq _ _ _ _ hI dX0_joinInSquare_114
/-- Spurline$Contours.joinGaps()V -/
def f_X0_joinGaps (N : Nat) (σ : gSt) : Option gSt :=
  gLoop2 (fun self2 (v1_2 : Int32) (s_2 : gSt) =>
    if f_X8_rows s_2 ≤ v1_2 + 1 then
      some s_2
    else
      gLoop2 (fun self17 (v2_17 : Int32) (s_17 : gSt) =>
        if f_X8_columns s_17 ≤ v2_17 + 1 then
          self2 (v1_2 + 1) s_17
        else
          (f_X0_joinInSquare N s_17 v2_17 v1_2).bind (fun (s_33 : gSt) =>
          self17 (v2_17 + 1) s_33)) N 0 s_2) N 0 σ
abbrev rmX0_joinGaps : Room := { frames := 4, cells := 0, slots := 0, locals := 93 }
theorem kb_X0_joinGaps : g_CB yX0_joinGaps cX0_joinGaps 3 none 0 := ⟨kc_X0_joinGaps, kn_X0, by decide +kernel⟩
set_option maxRecDepth 100000 in
set_option maxHeartbeats 4000000 in
theorem c_X0_joinGaps (l : Launch) (D : va_G) (a : Nat → Nat) (cI : ClassId) (hj : g_Inj 65 a) (N : Nat) (σ : gSt) (out : gSt) (hh : f_X0_joinGaps N σ = some out) : Met l yX0_joinGaps (Cond.code yX0_joinGaps cX0_joinGaps 3 none :: gW) rmX0_joinGaps (g_Pc 65 D a (gE a cI σ) [(cI, .int)] [.ref (a 2)]) (g_Qv 65 D a (gE a cI out)) 0 0 (g_Own 65 a) := by
  refine g_metv (by decide) hj (Nat.le_of_ble_eq_true rfl) ?_
  intro p e s m args below meth c Q ls F hl hI hq
  have hx := F.1.1
  have hb := F.1.2.1
  have hl : lv_has ls 3 [(0, .ref (a 2))] := hl
  have h := hh
  unfold f_X0_joinGaps at h
  refine lv_iconst (v := 0) hx hb dX0_joinGaps_0 (by decide) ?_
  refine lv_istore_n (lv' := [(1, .int 0), (0, .ref (a 2))]) hx hb dX0_joinGaps_1 rfl hl (by decide) rfl (fun ls hl => ?_)
  obtain ⟨lp2, hz2, hs2, h⟩ := gLoop2_in h
  have L2 : ∀ (n : Nat) (v1_2 : Int32) (s_2 : gSt) (H : Heap) (locs : List Loc) (ls : Array Slot), lp2 n v1_2 s_2 = some out → g_S 65 D a (gE a cI s_2) s.heap H locs → lv_has ls 3 [(0, .ref (a 2)), (1, .int v1_2)] → W p l e rmX0_joinGaps s m args below meth c H locs 0 0 Q (F0 m 2 ls []) := by
    intro n
    induction n with
    | zero => intro v1_2 s_2 H locs ls h; rw [hz2] at h; cases h
    | succ n ih2 =>
      intro v1_2 s_2 H locs ls h hI hl
      rw [hs2] at h
      refine lv_iload_n hx hb dX0_joinGaps_2 rfl (lv_at hl 1 rfl) ?_
      refine lv_iconst (v := 1) hx hb dX0_joinGaps_3 (by decide) ?_
      refine lv_iadd hx hb dX0_joinGaps_4 ?_
      refine lv_aload_n hx hb dX0_joinGaps_5 rfl (lv_at hl 0 rfl) ?_
      refine g_get F hI (by decide) gE_2 rfl ku_X0 0 (by decide) kf_X0_26 rfl dX0_joinGaps_6 ?_
      refine g_callVi (E' := gE a cI s_2) (k0 := 1) (As := []) (rest := [.int (v1_2 + 1)]) F hI (c_X8_rows l D a cI F.2.2 s_2) kb_X8_rows ki_X8_rows ks_X8_rows km_X0_64 ⟨Nat.le_of_ble_eq_true rfl, Nat.le_of_ble_eq_true rfl, rfl, rfl⟩ (by decide) gE_1 rfl hl.1 rfl (Nat.le_of_ble_eq_true rfl) ⟨Nat.zero_le _, Nat.zero_le _⟩ dX0_joinGaps_9 (fun H locs hI => ?_)
      refine lv_icmp_ge (tgt := 48) hx hb dX0_joinGaps_12 (by decide) (fun c_12 => ?_) (fun c_12 => ?_)
      · have h := (if_pos c_12).symm.trans h
        have h := Option.some.inj h
        subst h
        exact hq _ _ _ _ hI dX0_joinGaps_48
      · have h := (if_neg c_12).symm.trans h
        refine lv_iconst (v := 0) hx hb dX0_joinGaps_15 (by decide) ?_
        refine lv_istore_n (lv' := [(2, .int 0), (0, .ref (a 2)), (1, .int v1_2)]) hx hb dX0_joinGaps_16 rfl hl (by decide) rfl (fun ls hl => ?_)
        obtain ⟨lp17, hz17, hs17, h⟩ := gLoop2_in h
        have L17 : ∀ (n : Nat) (v2_17 : Int32) (s_17 : gSt) (H : Heap) (locs : List Loc) (ls : Array Slot), lp17 n v2_17 s_17 = some out → g_S 65 D a (gE a cI s_17) s.heap H locs → lv_has ls 3 [(0, .ref (a 2)), (1, .int v1_2), (2, .int v2_17)] → W p l e rmX0_joinGaps s m args below meth c H locs 0 0 Q (F0 m 17 ls []) := by
          intro n
          induction n with
          | zero => intro v2_17 s_17 H locs ls h; rw [hz17] at h; cases h
          | succ n ih17 =>
            intro v2_17 s_17 H locs ls h hI hl
            rw [hs17] at h
            refine lv_iload_n hx hb dX0_joinGaps_17 rfl (lv_at hl 2 rfl) ?_
            refine lv_iconst (v := 1) hx hb dX0_joinGaps_18 (by decide) ?_
            refine lv_iadd hx hb dX0_joinGaps_19 ?_
            refine lv_aload_n hx hb dX0_joinGaps_20 rfl (lv_at hl 0 rfl) ?_
            refine g_get F hI (by decide) gE_2 rfl ku_X0 0 (by decide) kf_X0_26 rfl dX0_joinGaps_21 ?_
            refine g_callVi (E' := gE a cI s_17) (k0 := 1) (As := []) (rest := [.int (v2_17 + 1)]) F hI (c_X8_columns l D a cI F.2.2 s_17) kb_X8_columns ki_X8_columns ks_X8_columns km_X0_68 ⟨Nat.le_of_ble_eq_true rfl, Nat.le_of_ble_eq_true rfl, rfl, rfl⟩ (by decide) gE_1 rfl hl.1 rfl (Nat.le_of_ble_eq_true rfl) ⟨Nat.zero_le _, Nat.zero_le _⟩ dX0_joinGaps_24 (fun H locs hI => ?_)
            refine lv_icmp_ge (tgt := 42) hx hb dX0_joinGaps_27 (by decide) (fun c_27 => ?_) (fun c_27 => ?_)
            · have h := (if_pos c_27).symm.trans h
              refine lv_iinc (v := v1_2 + 1) (lv' := [(1, .int (v1_2 + 1)), (0, .ref (a 2)), (2, .int v2_17)]) hx hb dX0_joinGaps_42 hl (k := 1) rfl rfl (by decide) rfl (fun ls hl => ?_)
              refine lv_goto (tgt := 2) hx hb dX0_joinGaps_45 (by decide) ?_
              exact ih2 _ _ _ _ _ h hI (lv_sub hl [1, 0] rfl)
            · have h := (if_neg c_27).symm.trans h
              refine lv_aload_n hx hb dX0_joinGaps_30 rfl (lv_at hl 0 rfl) ?_
              refine lv_iload_n hx hb dX0_joinGaps_31 rfl (lv_at hl 2 rfl) ?_
              refine lv_iload_n hx hb dX0_joinGaps_32 rfl (lv_at hl 1 rfl) ?_
              obtain ⟨s_33, e_33, h⟩ := gBind_in h
              refine g_callVv (E' := gE a cI s_33) (k0 := 2) (As := [.int v2_17, .int v1_2]) (rest := []) F hI (c_X0_joinInSquare l D a cI F.2.2 N s_17 v2_17 v1_2 s_33 e_33) kb_X0_joinInSquare ki_X0_joinInSquare ks_X0_joinInSquare km_X0_88 ⟨Nat.le_of_ble_eq_true rfl, Nat.le_of_ble_eq_true rfl, rfl, rfl⟩ (by decide) gE_2 rfl hl.1 rfl (Nat.le_of_ble_eq_true rfl) ⟨Nat.zero_le _, Nat.zero_le _⟩ dX0_joinGaps_33 (fun H locs hI => ?_)
              refine lv_iinc (v := v2_17 + 1) (lv' := [(2, .int (v2_17 + 1)), (0, .ref (a 2)), (1, .int v1_2)]) hx hb dX0_joinGaps_36 hl (k := 2) rfl rfl (by decide) rfl (fun ls hl => ?_)
              refine lv_goto (tgt := 17) hx hb dX0_joinGaps_39 (by decide) ?_
              exact ih17 _ _ _ _ _ h hI (lv_sub hl [1, 2, 0] rfl)
        exact L17 _ _ _ _ _ _ h hI (lv_sub hl [1, 2, 0] rfl)
  exact L2 _ _ _ _ _ _ h hI (lv_sub hl [1, 0] rfl)
/-- Spurline$Contours.measureGap(IZ)V -/
def f_X0_measureGap (N : Nat) (σ : gSt) (x1 x2 : Int32) : Option gSt :=
  if f_X0_isGap σ x1 = 0 then
    some σ
  else
    (f_X0_leaderOf N σ x1).bind (fun (r_14 : Int32) =>
    (f_X0_leaderOf N (ginc σ 3 r_14 1) x1).bind (fun (r_27 : Int32) =>
    gJoin1 (fun (w0_39 : Int32) =>
        some (ginc (ginc σ 3 r_14 1) 4 r_27 w0_39)) (fun j39 =>
      if x2 = 0 then
        j39 0
      else
        j39 1)))
abbrev rmX0_measureGap : Room := { frames := 2, cells := 0, slots := 0, locals := 44 }
theorem kb_X0_measureGap : g_CB yX0_measureGap cX0_measureGap 3 none 2 := ⟨kc_X0_measureGap, kn_X0, by decide +kernel⟩
set_option maxRecDepth 100000 in
set_option maxHeartbeats 4000000 in
theorem c_X0_measureGap (l : Launch) (D : va_G) (a : Nat → Nat) (cI : ClassId) (hj : g_Inj 65 a) (N : Nat) (σ : gSt) (x1 x2 : Int32) (out : gSt) (hh : f_X0_measureGap N σ x1 x2 = some out) : Met l yX0_measureGap (Cond.code yX0_measureGap cX0_measureGap 3 none :: gW) rmX0_measureGap (g_Pc 65 D a (gE a cI σ) [(cI, .int)] [.ref (a 2), .int x1, .int x2]) (g_Qv 65 D a (gE a cI out)) 0 0 (g_Own 65 a) := by
  refine g_metv (by decide) hj (Nat.le_of_ble_eq_true rfl) ?_
  intro p e s m args below meth c Q ls F hl hI hq
  have hx := F.1.1
  have hb := F.1.2.1
  have hl : lv_has ls 3 [(0, .ref (a 2)), (1, .int x1), (2, .int x2)] := hl
  have h := hh
  unfold f_X0_measureGap at h
  refine lv_aload_n hx hb dX0_measureGap_0 rfl (lv_at hl 0 rfl) ?_
  refine lv_iload_n hx hb dX0_measureGap_1 rfl (lv_at hl 1 rfl) ?_
  refine g_callVi (E' := gE a cI σ) (k0 := 2) (As := [.int x1]) (rest := []) F hI (c_X0_isGap l D a cI F.2.2 σ x1) kb_X0_isGap ki_X0_isGap ks_X0_isGap km_X0_91 ⟨Nat.le_of_ble_eq_true rfl, Nat.le_of_ble_eq_true rfl, rfl, rfl⟩ (by decide) gE_2 rfl hl.1 rfl (Nat.le_of_ble_eq_true rfl) ⟨Nat.zero_le _, Nat.zero_le _⟩ dX0_measureGap_2 (fun H locs hI => ?_)
  refine lv_if_eq (tgt := 42) hx hb dX0_measureGap_5 (by decide) (fun c_5 => ?_) (fun c_5 => ?_)
  · have h := (if_pos c_5).symm.trans h
    have h := Option.some.inj h
    subst h
    exact hq _ _ _ _ hI dX0_measureGap_42
  · have h := (if_neg c_5).symm.trans h
    refine lv_aload_n hx hb dX0_measureGap_8 rfl (lv_at hl 0 rfl) ?_
    refine g_get F hI (by decide) gE_2 rfl ku_X0 2 (by decide) kf_X0_20 rfl dX0_measureGap_9 ?_
    refine lv_aload_n hx hb dX0_measureGap_12 rfl (lv_at hl 0 rfl) ?_
    refine lv_iload_n hx hb dX0_measureGap_13 rfl (lv_at hl 1 rfl) ?_
    obtain ⟨r_14, e_14, h⟩ := gBind_in h
    refine g_callVi (E' := gE a cI σ) (k0 := 2) (As := [.int x1]) (rest := [.ref (a 12)]) F hI (c_X0_leaderOf l D a cI F.2.2 N σ x1 r_14 e_14) kb_X0_leaderOf ki_X0_leaderOf ks_X0_leaderOf km_X0_101 ⟨Nat.le_of_ble_eq_true rfl, Nat.le_of_ble_eq_true rfl, rfl, rfl⟩ (by decide) gE_2 rfl hl.1 rfl (Nat.le_of_ble_eq_true rfl) ⟨Nat.zero_le _, Nat.zero_le _⟩ dX0_measureGap_14 (fun H locs hI => ?_)
    refine lv_iconst (v := 1) hx hb dX0_measureGap_17 (by decide) ?_
    refine g_rinc F hI 3 (by decide) km_X0_108 ⟨Nat.le_of_ble_eq_true rfl, Nat.le_of_ble_eq_true rfl⟩ hl.1 (Nat.le_of_ble_eq_true rfl) ⟨Nat.zero_le _, Nat.zero_le _⟩ dX0_measureGap_18 (fun H locs hI => ?_)
    refine lv_aload_n hx hb dX0_measureGap_21 rfl (lv_at hl 0 rfl) ?_
    refine g_get F hI (by decide) gE_2 rfl ku_X0 3 (by decide) kf_X0_23 rfl dX0_measureGap_22 ?_
    refine lv_aload_n hx hb dX0_measureGap_25 rfl (lv_at hl 0 rfl) ?_
    refine lv_iload_n hx hb dX0_measureGap_26 rfl (lv_at hl 1 rfl) ?_
    obtain ⟨r_27, e_27, h⟩ := gBind_in h
    refine g_callVi (E' := gE a cI (ginc σ 3 r_14 1)) (k0 := 2) (As := [.int x1]) (rest := [.ref (a 13)]) F hI (c_X0_leaderOf l D a cI F.2.2 N (ginc σ 3 r_14 1) x1 r_27 e_27) kb_X0_leaderOf ki_X0_leaderOf ks_X0_leaderOf km_X0_101 ⟨Nat.le_of_ble_eq_true rfl, Nat.le_of_ble_eq_true rfl, rfl, rfl⟩ (by decide) gE_2 rfl hl.1 rfl (Nat.le_of_ble_eq_true rfl) ⟨Nat.zero_le _, Nat.zero_le _⟩ dX0_measureGap_27 (fun H locs hI => ?_)
    refine lv_iload_n hx hb dX0_measureGap_30 rfl (lv_at hl 2 rfl) ?_
    obtain ⟨j39, hj39, h⟩ := gJoin1_in h
    have J39 : ∀ (w0_39 : Int32) (H : Heap) (locs : List Loc) (ls : Array Slot), j39 w0_39 = some out → g_S 65 D a (gE a cI (ginc σ 3 r_14 1)) s.heap H locs → lv_has ls 3 [] → W p l e rmX0_measureGap s m args below meth c H locs 0 0 Q (F0 m 39 ls [.int w0_39, .int r_27, .ref (a 13)]) := by
      intro w0_39 H locs ls h hI hl
      rw [hj39] at h
      refine g_rinc F hI 4 (by decide) km_X0_108 ⟨Nat.le_of_ble_eq_true rfl, Nat.le_of_ble_eq_true rfl⟩ hl.1 (Nat.le_of_ble_eq_true rfl) ⟨Nat.zero_le _, Nat.zero_le _⟩ dX0_measureGap_39 (fun H locs hI => ?_)
      have h := Option.some.inj h
      subst h
      exact hq _ _ _ _ hI dX0_measureGap_42
    refine lv_if_eq (tgt := 38) hx hb dX0_measureGap_31 (by decide) (fun c_31 => ?_) (fun c_31 => ?_)
    · have h := (if_pos c_31).symm.trans h
      refine lv_iconst (v := 0) hx hb dX0_measureGap_38 (by decide) ?_
      exact J39 _ _ _ _ h hI (lv_sub hl [] rfl)
    · have h := (if_neg c_31).symm.trans h
      refine lv_iconst (v := 1) hx hb dX0_measureGap_34 (by decide) ?_
      refine lv_goto (tgt := 39) hx hb dX0_measureGap_35 (by decide) ?_
      exact J39 _ _ _ _ h hI (lv_sub hl [] rfl)
/-- Spurline$Contours.measureLines()V -/
def f_X0_measureLines (N : Nat) (σ : gSt) : Option gSt :=
  gLoop2 (fun self2 (v1_2 : Int32) (s_2 : gSt) =>
    if f_X8_rows s_2 ≤ v1_2 then
      some s_2
    else
      gJoin1 (fun (w0_35 : Int32) =>
          gLoop2 (fun self38 (v3_38 : Int32) (s_38 : gSt) =>
            if f_X8_columns s_38 ≤ v3_38 then
              self2 (v1_2 + 1) s_38
            else
              (f_X0_measureGap N s_38 (f_X0_gapToTheRight v3_38 v1_2) w0_35).bind (fun (s_56 : gSt) =>
              gJoin1 (fun (w0_87 : Int32) =>
                  (f_X0_measureGap N s_56 (f_X0_gapBelow v3_38 v1_2) w0_87).bind (fun (s_87 : gSt) =>
                  self38 (v3_38 + 1) s_87)) (fun j87 =>
              gJoin0 (
                  j87 1) (fun j82 =>
                if v3_38 = 0 then
                  j82
                else
                  if v3_38 = (f_X8_columns s_56) - 1 then
                    j82
                  else
                    j87 0)))) N 0 s_2) (fun j35 =>
      gJoin0 (
          j35 1) (fun j30 =>
        if v1_2 = 0 then
          j30
        else
          if v1_2 = (f_X8_rows s_2) - 1 then
            j30
          else
            j35 0))) N 0 σ
abbrev rmX0_measureLines : Room := { frames := 3, cells := 0, slots := 0, locals := 66 }
theorem kb_X0_measureLines : g_CB yX0_measureLines cX0_measureLines 4 none 0 := ⟨kc_X0_measureLines, kn_X0, by decide +kernel⟩
set_option maxRecDepth 100000 in
set_option maxHeartbeats 4000000 in
theorem c_X0_measureLines (l : Launch) (D : va_G) (a : Nat → Nat) (cI : ClassId) (hj : g_Inj 65 a) (N : Nat) (σ : gSt) (out : gSt) (hh : f_X0_measureLines N σ = some out) : Met l yX0_measureLines (Cond.code yX0_measureLines cX0_measureLines 4 none :: gW) rmX0_measureLines (g_Pc 65 D a (gE a cI σ) [(cI, .int)] [.ref (a 2)]) (g_Qv 65 D a (gE a cI out)) 0 0 (g_Own 65 a) := by
  refine g_metv (by decide) hj (Nat.le_of_ble_eq_true rfl) ?_
  intro p e s m args below meth c Q ls F hl hI hq
  have hx := F.1.1
  have hb := F.1.2.1
  have hl : lv_has ls 4 [(0, .ref (a 2))] := hl
  have h := hh
  unfold f_X0_measureLines at h
  refine lv_iconst (v := 0) hx hb dX0_measureLines_0 (by decide) ?_
  refine lv_istore_n (lv' := [(1, .int 0), (0, .ref (a 2))]) hx hb dX0_measureLines_1 rfl hl (by decide) rfl (fun ls hl => ?_)
  obtain ⟨lp2, hz2, hs2, h⟩ := gLoop2_in h
  have L2 : ∀ (n : Nat) (v1_2 : Int32) (s_2 : gSt) (H : Heap) (locs : List Loc) (ls : Array Slot), lp2 n v1_2 s_2 = some out → g_S 65 D a (gE a cI s_2) s.heap H locs → lv_has ls 4 [(0, .ref (a 2)), (1, .int v1_2)] → W p l e rmX0_measureLines s m args below meth c H locs 0 0 Q (F0 m 2 ls []) := by
    intro n
    induction n with
    | zero => intro v1_2 s_2 H locs ls h; rw [hz2] at h; cases h
    | succ n ih2 =>
      intro v1_2 s_2 H locs ls h hI hl
      rw [hs2] at h
      refine lv_iload_n hx hb dX0_measureLines_2 rfl (lv_at hl 1 rfl) ?_
      refine lv_aload_n hx hb dX0_measureLines_3 rfl (lv_at hl 0 rfl) ?_
      refine g_get F hI (by decide) gE_2 rfl ku_X0 0 (by decide) kf_X0_26 rfl dX0_measureLines_4 ?_
      refine g_callVi (E' := gE a cI s_2) (k0 := 1) (As := []) (rest := [.int v1_2]) F hI (c_X8_rows l D a cI F.2.2 s_2) kb_X8_rows ki_X8_rows ks_X8_rows km_X0_64 ⟨Nat.le_of_ble_eq_true rfl, Nat.le_of_ble_eq_true rfl, rfl, rfl⟩ (by decide) gE_1 rfl hl.1 rfl (Nat.le_of_ble_eq_true rfl) ⟨Nat.zero_le _, Nat.zero_le _⟩ dX0_measureLines_7 (fun H locs hI => ?_)
      refine lv_icmp_ge (tgt := 102) hx hb dX0_measureLines_10 (by decide) (fun c_10 => ?_) (fun c_10 => ?_)
      · have h := (if_pos c_10).symm.trans h
        have h := Option.some.inj h
        subst h
        exact hq _ _ _ _ hI dX0_measureLines_102
      · have h := (if_neg c_10).symm.trans h
        refine lv_iload_n hx hb dX0_measureLines_13 rfl (lv_at hl 1 rfl) ?_
        obtain ⟨j35, hj35, h⟩ := gJoin1_in h
        have J35 : ∀ (w0_35 : Int32) (H : Heap) (locs : List Loc) (ls : Array Slot), j35 w0_35 = some out → g_S 65 D a (gE a cI s_2) s.heap H locs → lv_has ls 4 [(0, .ref (a 2)), (1, .int v1_2)] → W p l e rmX0_measureLines s m args below meth c H locs 0 0 Q (F0 m 35 ls [.int w0_35]) := by
          intro w0_35 H locs ls h hI hl
          rw [hj35] at h
          refine lv_istore_n (lv' := [(2, .int w0_35), (0, .ref (a 2)), (1, .int v1_2)]) hx hb dX0_measureLines_35 rfl hl (by decide) rfl (fun ls hl => ?_)
          refine lv_iconst (v := 0) hx hb dX0_measureLines_36 (by decide) ?_
          refine lv_istore_n (lv' := [(3, .int 0), (2, .int w0_35), (0, .ref (a 2)), (1, .int v1_2)]) hx hb dX0_measureLines_37 rfl hl (by decide) rfl (fun ls hl => ?_)
          obtain ⟨lp38, hz38, hs38, h⟩ := gLoop2_in h
          have L38 : ∀ (n : Nat) (v3_38 : Int32) (s_38 : gSt) (H : Heap) (locs : List Loc) (ls : Array Slot), lp38 n v3_38 s_38 = some out → g_S 65 D a (gE a cI s_38) s.heap H locs → lv_has ls 4 [(0, .ref (a 2)), (1, .int v1_2), (2, .int w0_35), (3, .int v3_38)] → W p l e rmX0_measureLines s m args below meth c H locs 0 0 Q (F0 m 38 ls []) := by
            intro n
            induction n with
            | zero => intro v3_38 s_38 H locs ls h; rw [hz38] at h; cases h
            | succ n ih38 =>
              intro v3_38 s_38 H locs ls h hI hl
              rw [hs38] at h
              refine lv_iload_n hx hb dX0_measureLines_38 rfl (lv_at hl 3 rfl) ?_
              refine lv_aload_n hx hb dX0_measureLines_39 rfl (lv_at hl 0 rfl) ?_
              refine g_get F hI (by decide) gE_2 rfl ku_X0 0 (by decide) kf_X0_26 rfl dX0_measureLines_40 ?_
              refine g_callVi (E' := gE a cI s_38) (k0 := 1) (As := []) (rest := [.int v3_38]) F hI (c_X8_columns l D a cI F.2.2 s_38) kb_X8_columns ki_X8_columns ks_X8_columns km_X0_68 ⟨Nat.le_of_ble_eq_true rfl, Nat.le_of_ble_eq_true rfl, rfl, rfl⟩ (by decide) gE_1 rfl hl.1 rfl (Nat.le_of_ble_eq_true rfl) ⟨Nat.zero_le _, Nat.zero_le _⟩ dX0_measureLines_43 (fun H locs hI => ?_)
              refine lv_icmp_ge (tgt := 96) hx hb dX0_measureLines_46 (by decide) (fun c_46 => ?_) (fun c_46 => ?_)
              · have h := (if_pos c_46).symm.trans h
                refine lv_iinc (v := v1_2 + 1) (lv' := [(1, .int (v1_2 + 1)), (0, .ref (a 2)), (2, .int w0_35), (3, .int v3_38)]) hx hb dX0_measureLines_96 hl (k := 1) rfl rfl (by decide) rfl (fun ls hl => ?_)
                refine lv_goto (tgt := 2) hx hb dX0_measureLines_99 (by decide) ?_
                exact ih2 _ _ _ _ _ h hI (lv_sub hl [1, 0] rfl)
              · have h := (if_neg c_46).symm.trans h
                refine lv_aload_n hx hb dX0_measureLines_49 rfl (lv_at hl 0 rfl) ?_
                refine lv_iload_n hx hb dX0_measureLines_50 rfl (lv_at hl 3 rfl) ?_
                refine lv_iload_n hx hb dX0_measureLines_51 rfl (lv_at hl 1 rfl) ?_
                refine g_callSi (E' := gE a cI s_38) (As := [.int v3_38, .int v1_2]) (rest := [.ref (a 2)]) F hI (c_X0_gapToTheRight l D a cI F.2.2 s_38 v3_38 v1_2) kb_X0_gapToTheRight kt_X0_gapToTheRight km_X0_78 ⟨Nat.le_of_ble_eq_true rfl, Nat.le_of_ble_eq_true rfl, rfl, rfl⟩ hl.1 rfl (Nat.le_of_ble_eq_true rfl) ⟨Nat.zero_le _, Nat.zero_le _⟩ dX0_measureLines_52 (fun H locs hI => ?_)
                refine lv_iload_n hx hb dX0_measureLines_55 rfl (lv_at hl 2 rfl) ?_
                obtain ⟨s_56, e_56, h⟩ := gBind_in h
                refine g_callVv (E' := gE a cI s_56) (k0 := 2) (As := [.int (f_X0_gapToTheRight v3_38 v1_2), .int w0_35]) (rest := []) F hI (c_X0_measureGap l D a cI F.2.2 N s_38 (f_X0_gapToTheRight v3_38 v1_2) w0_35 s_56 e_56) kb_X0_measureGap ki_X0_measureGap ks_X0_measureGap km_X0_104 ⟨Nat.le_of_ble_eq_true rfl, Nat.le_of_ble_eq_true rfl, rfl, rfl⟩ (by decide) gE_2 rfl hl.1 rfl (Nat.le_of_ble_eq_true rfl) ⟨Nat.zero_le _, Nat.zero_le _⟩ dX0_measureLines_56 (fun H locs hI => ?_)
                refine lv_aload_n hx hb dX0_measureLines_59 rfl (lv_at hl 0 rfl) ?_
                refine lv_iload_n hx hb dX0_measureLines_60 rfl (lv_at hl 3 rfl) ?_
                refine lv_iload_n hx hb dX0_measureLines_61 rfl (lv_at hl 1 rfl) ?_
                refine g_callSi (E' := gE a cI s_56) (As := [.int v3_38, .int v1_2]) (rest := [.ref (a 2)]) F hI (c_X0_gapBelow l D a cI F.2.2 s_56 v3_38 v1_2) kb_X0_gapBelow kt_X0_gapBelow km_X0_85 ⟨Nat.le_of_ble_eq_true rfl, Nat.le_of_ble_eq_true rfl, rfl, rfl⟩ hl.1 rfl (Nat.le_of_ble_eq_true rfl) ⟨Nat.zero_le _, Nat.zero_le _⟩ dX0_measureLines_62 (fun H locs hI => ?_)
                refine lv_iload_n hx hb dX0_measureLines_65 rfl (lv_at hl 3 rfl) ?_
                obtain ⟨j87, hj87, h⟩ := gJoin1_in h
                have J87 : ∀ (w0_87 : Int32) (H : Heap) (locs : List Loc) (ls : Array Slot), j87 w0_87 = some out → g_S 65 D a (gE a cI s_56) s.heap H locs → lv_has ls 4 [(0, .ref (a 2)), (1, .int v1_2), (2, .int w0_35), (3, .int v3_38)] → W p l e rmX0_measureLines s m args below meth c H locs 0 0 Q (F0 m 87 ls [.int w0_87, .int (f_X0_gapBelow v3_38 v1_2), .ref (a 2)]) := by
                  intro w0_87 H locs ls h hI hl
                  rw [hj87] at h
                  obtain ⟨s_87, e_87, h⟩ := gBind_in h
                  refine g_callVv (E' := gE a cI s_87) (k0 := 2) (As := [.int (f_X0_gapBelow v3_38 v1_2), .int w0_87]) (rest := []) F hI (c_X0_measureGap l D a cI F.2.2 N s_56 (f_X0_gapBelow v3_38 v1_2) w0_87 s_87 e_87) kb_X0_measureGap ki_X0_measureGap ks_X0_measureGap km_X0_104 ⟨Nat.le_of_ble_eq_true rfl, Nat.le_of_ble_eq_true rfl, rfl, rfl⟩ (by decide) gE_2 rfl hl.1 rfl (Nat.le_of_ble_eq_true rfl) ⟨Nat.zero_le _, Nat.zero_le _⟩ dX0_measureLines_87 (fun H locs hI => ?_)
                  refine lv_iinc (v := v3_38 + 1) (lv' := [(3, .int (v3_38 + 1)), (0, .ref (a 2)), (1, .int v1_2), (2, .int w0_35)]) hx hb dX0_measureLines_90 hl (k := 3) rfl rfl (by decide) rfl (fun ls hl => ?_)
                  refine lv_goto (tgt := 38) hx hb dX0_measureLines_93 (by decide) ?_
                  exact ih38 _ _ _ _ _ h hI (lv_sub hl [1, 2, 3, 0] rfl)
                obtain ⟨j82, hj82, h⟩ := gJoin0_in h
                have J82 : ∀ (H : Heap) (locs : List Loc) (ls : Array Slot), j82  = some out → g_S 65 D a (gE a cI s_56) s.heap H locs → lv_has ls 4 [(0, .ref (a 2)), (1, .int v1_2), (2, .int w0_35), (3, .int v3_38)] → W p l e rmX0_measureLines s m args below meth c H locs 0 0 Q (F0 m 82 ls [.int (f_X0_gapBelow v3_38 v1_2), .ref (a 2)]) := by
                  intro  H locs ls h hI hl
                  rw [hj82] at h
                  refine lv_iconst (v := 1) hx hb dX0_measureLines_82 (by decide) ?_
                  refine lv_goto (tgt := 87) hx hb dX0_measureLines_83 (by decide) ?_
                  exact J87 _ _ _ _ h hI (lv_sub hl [0, 1, 2, 3] rfl)
                refine lv_if_eq (tgt := 82) hx hb dX0_measureLines_66 (by decide) (fun c_66 => ?_) (fun c_66 => ?_)
                · have h := (if_pos c_66).symm.trans h
                  exact J82 _ _ _ h hI (lv_sub hl [0, 1, 2, 3] rfl)
                · have h := (if_neg c_66).symm.trans h
                  refine lv_iload_n hx hb dX0_measureLines_69 rfl (lv_at hl 3 rfl) ?_
                  refine lv_aload_n hx hb dX0_measureLines_70 rfl (lv_at hl 0 rfl) ?_
                  refine g_get F hI (by decide) gE_2 rfl ku_X0 0 (by decide) kf_X0_26 rfl dX0_measureLines_71 ?_
                  refine g_callVi (E' := gE a cI s_56) (k0 := 1) (As := []) (rest := [.int v3_38, .int (f_X0_gapBelow v3_38 v1_2), .ref (a 2)]) F hI (c_X8_columns l D a cI F.2.2 s_56) kb_X8_columns ki_X8_columns ks_X8_columns km_X0_68 ⟨Nat.le_of_ble_eq_true rfl, Nat.le_of_ble_eq_true rfl, rfl, rfl⟩ (by decide) gE_1 rfl hl.1 rfl (Nat.le_of_ble_eq_true rfl) ⟨Nat.zero_le _, Nat.zero_le _⟩ dX0_measureLines_74 (fun H locs hI => ?_)
                  refine lv_iconst (v := 1) hx hb dX0_measureLines_77 (by decide) ?_
                  refine lv_isub hx hb dX0_measureLines_78 ?_
                  refine lv_icmp_ne (tgt := 86) hx hb dX0_measureLines_79 (by decide) (fun c_79 => ?_) (fun c_79 => ?_)
                  · have h := (if_neg c_79).symm.trans h
                    refine lv_iconst (v := 0) hx hb dX0_measureLines_86 (by decide) ?_
                    exact J87 _ _ _ _ h hI (lv_sub hl [0, 1, 2, 3] rfl)
                  · have h := (if_pos c_79).symm.trans h
                    exact J82 _ _ _ h hI (lv_sub hl [0, 1, 2, 3] rfl)
          exact L38 _ _ _ _ _ _ h hI (lv_sub hl [2, 3, 1, 0] rfl)
        obtain ⟨j30, hj30, h⟩ := gJoin0_in h
        have J30 : ∀ (H : Heap) (locs : List Loc) (ls : Array Slot), j30  = some out → g_S 65 D a (gE a cI s_2) s.heap H locs → lv_has ls 4 [(0, .ref (a 2)), (1, .int v1_2)] → W p l e rmX0_measureLines s m args below meth c H locs 0 0 Q (F0 m 30 ls []) := by
          intro  H locs ls h hI hl
          rw [hj30] at h
          refine lv_iconst (v := 1) hx hb dX0_measureLines_30 (by decide) ?_
          refine lv_goto (tgt := 35) hx hb dX0_measureLines_31 (by decide) ?_
          exact J35 _ _ _ _ h hI (lv_sub hl [0, 1] rfl)
        refine lv_if_eq (tgt := 30) hx hb dX0_measureLines_14 (by decide) (fun c_14 => ?_) (fun c_14 => ?_)
        · have h := (if_pos c_14).symm.trans h
          exact J30 _ _ _ h hI (lv_sub hl [0, 1] rfl)
        · have h := (if_neg c_14).symm.trans h
          refine lv_iload_n hx hb dX0_measureLines_17 rfl (lv_at hl 1 rfl) ?_
          refine lv_aload_n hx hb dX0_measureLines_18 rfl (lv_at hl 0 rfl) ?_
          refine g_get F hI (by decide) gE_2 rfl ku_X0 0 (by decide) kf_X0_26 rfl dX0_measureLines_19 ?_
          refine g_callVi (E' := gE a cI s_2) (k0 := 1) (As := []) (rest := [.int v1_2]) F hI (c_X8_rows l D a cI F.2.2 s_2) kb_X8_rows ki_X8_rows ks_X8_rows km_X0_64 ⟨Nat.le_of_ble_eq_true rfl, Nat.le_of_ble_eq_true rfl, rfl, rfl⟩ (by decide) gE_1 rfl hl.1 rfl (Nat.le_of_ble_eq_true rfl) ⟨Nat.zero_le _, Nat.zero_le _⟩ dX0_measureLines_22 (fun H locs hI => ?_)
          refine lv_iconst (v := 1) hx hb dX0_measureLines_25 (by decide) ?_
          refine lv_isub hx hb dX0_measureLines_26 ?_
          refine lv_icmp_ne (tgt := 34) hx hb dX0_measureLines_27 (by decide) (fun c_27 => ?_) (fun c_27 => ?_)
          · have h := (if_neg c_27).symm.trans h
            refine lv_iconst (v := 0) hx hb dX0_measureLines_34 (by decide) ?_
            exact J35 _ _ _ _ h hI (lv_sub hl [0, 1] rfl)
          · have h := (if_pos c_27).symm.trans h
            exact J30 _ _ _ h hI (lv_sub hl [0, 1] rfl)
  exact L2 _ _ _ _ _ _ h hI (lv_sub hl [1, 0] rfl)
/-- Spurline$Contours.trace(I)V -/
def f_X0_trace (N : Nat) (σ : gSt) (x1 : Int32) : Option gSt :=
  (f_X0_findGaps N (gfill (gfill (gfill (g_sf σ 2 x1) 2 (-1)) 3 0) 4 0)).bind (fun (s_30 : gSt) =>
  (f_X0_joinGaps N s_30).bind (fun (s_34 : gSt) =>
  (f_X0_measureLines N s_34).bind (fun (s_38 : gSt) =>
  some s_38)))
abbrev rmX0_trace : Room := { frames := 5, cells := 0, slots := 0, locals := 115 }
theorem kb_X0_trace : g_CB yX0_trace cX0_trace 2 none 1 := ⟨kc_X0_trace, kn_X0, by decide +kernel⟩
set_option maxRecDepth 100000 in
set_option maxHeartbeats 4000000 in
theorem c_X0_trace (l : Launch) (D : va_G) (a : Nat → Nat) (cI : ClassId) (hj : g_Inj 65 a) (N : Nat) (σ : gSt) (x1 : Int32) (out : gSt) (hh : f_X0_trace N σ x1 = some out) : Met l yX0_trace (Cond.code yX0_trace cX0_trace 2 none :: gW) rmX0_trace (g_Pc 65 D a (gE a cI σ) [(cI, .int)] [.ref (a 2), .int x1]) (g_Qv 65 D a (gE a cI out)) 0 0 (g_Own 65 a) := by
  refine g_metv (by decide) hj (Nat.le_of_ble_eq_true rfl) ?_
  intro p e s m args below meth c Q ls F hl hI hq
  have hx := F.1.1
  have hb := F.1.2.1
  have hl : lv_has ls 2 [(0, .ref (a 2)), (1, .int x1)] := hl
  have h := hh
  unfold f_X0_trace at h
  refine lv_aload_n hx hb dX0_trace_0 rfl (lv_at hl 0 rfl) ?_
  refine lv_iload_n hx hb dX0_trace_1 rfl (lv_at hl 1 rfl) ?_
  refine g_put (E' := gE a cI (g_sf σ 2 x1)) F hI (by decide) gE_2 rfl ku_X0 tyX0_ok nmX0 4 (by decide) kf_X0_30 rfl rfl rfl rfl (Nat.le_of_ble_eq_true rfl) rfl gE_sf_2 dX0_trace_2 (fun H locs hI => ?_)
  refine lv_aload_n hx hb dX0_trace_5 rfl (lv_at hl 0 rfl) ?_
  refine g_get F hI (by decide) gE_2 rfl ku_X0 1 (by decide) kf_X0_16 rfl dX0_trace_6 ?_
  refine lv_iconst (v := -1) hx hb dX0_trace_9 (by decide) ?_
  refine g_rfill F hI 2 (by decide) km_X0_34 ⟨Nat.le_of_ble_eq_true rfl, Nat.le_of_ble_eq_true rfl⟩ hl.1 (Nat.le_of_ble_eq_true rfl) ⟨Nat.zero_le _, Nat.zero_le _⟩ dX0_trace_10 (fun H locs hI => ?_)
  refine lv_aload_n hx hb dX0_trace_13 rfl (lv_at hl 0 rfl) ?_
  refine g_get F hI (by decide) gE_2 rfl ku_X0 2 (by decide) kf_X0_20 rfl dX0_trace_14 ?_
  refine lv_iconst (v := 0) hx hb dX0_trace_17 (by decide) ?_
  refine g_rfill F hI 3 (by decide) km_X0_34 ⟨Nat.le_of_ble_eq_true rfl, Nat.le_of_ble_eq_true rfl⟩ hl.1 (Nat.le_of_ble_eq_true rfl) ⟨Nat.zero_le _, Nat.zero_le _⟩ dX0_trace_18 (fun H locs hI => ?_)
  refine lv_aload_n hx hb dX0_trace_21 rfl (lv_at hl 0 rfl) ?_
  refine g_get F hI (by decide) gE_2 rfl ku_X0 3 (by decide) kf_X0_23 rfl dX0_trace_22 ?_
  refine lv_iconst (v := 0) hx hb dX0_trace_25 (by decide) ?_
  refine g_rfill F hI 4 (by decide) km_X0_34 ⟨Nat.le_of_ble_eq_true rfl, Nat.le_of_ble_eq_true rfl⟩ hl.1 (Nat.le_of_ble_eq_true rfl) ⟨Nat.zero_le _, Nat.zero_le _⟩ dX0_trace_26 (fun H locs hI => ?_)
  refine lv_aload_n hx hb dX0_trace_29 rfl (lv_at hl 0 rfl) ?_
  obtain ⟨s_30, e_30, h⟩ := gBind_in h
  refine g_callVv (E' := gE a cI s_30) (k0 := 2) (As := []) (rest := []) F hI (c_X0_findGaps l D a cI F.2.2 N (gfill (gfill (gfill (g_sf σ 2 x1) 2 (-1)) 3 0) 4 0) s_30 e_30) kb_X0_findGaps ki_X0_findGaps ks_X0_findGaps km_X0_37 ⟨Nat.le_of_ble_eq_true rfl, Nat.le_of_ble_eq_true rfl, rfl, rfl⟩ (by decide) gE_2 rfl hl.1 rfl (Nat.le_of_ble_eq_true rfl) ⟨Nat.zero_le _, Nat.zero_le _⟩ dX0_trace_30 (fun H locs hI => ?_)
  refine lv_aload_n hx hb dX0_trace_33 rfl (lv_at hl 0 rfl) ?_
  obtain ⟨s_34, e_34, h⟩ := gBind_in h
  refine g_callVv (E' := gE a cI s_34) (k0 := 2) (As := []) (rest := []) F hI (c_X0_joinGaps l D a cI F.2.2 N s_30 s_34 e_34) kb_X0_joinGaps ki_X0_joinGaps ks_X0_joinGaps km_X0_40 ⟨Nat.le_of_ble_eq_true rfl, Nat.le_of_ble_eq_true rfl, rfl, rfl⟩ (by decide) gE_2 rfl hl.1 rfl (Nat.le_of_ble_eq_true rfl) ⟨Nat.zero_le _, Nat.zero_le _⟩ dX0_trace_34 (fun H locs hI => ?_)
  refine lv_aload_n hx hb dX0_trace_37 rfl (lv_at hl 0 rfl) ?_
  obtain ⟨s_38, e_38, h⟩ := gBind_in h
  refine g_callVv (E' := gE a cI s_38) (k0 := 2) (As := []) (rest := []) F hI (c_X0_measureLines l D a cI F.2.2 N s_34 s_38 e_38) kb_X0_measureLines ki_X0_measureLines ks_X0_measureLines km_X0_43 ⟨Nat.le_of_ble_eq_true rfl, Nat.le_of_ble_eq_true rfl, rfl, rfl⟩ (by decide) gE_2 rfl hl.1 rfl (Nat.le_of_ble_eq_true rfl) ⟨Nat.zero_le _, Nat.zero_le _⟩ dX0_trace_38 (fun H locs hI => ?_)
  have h := Option.some.inj h
  subst h
  exact hq _ _ _ _ hI dX0_trace_41
/-- Spurline$Contours.lineCount()I -/
def f_X0_lineCount (N : Nat) (σ : gSt) : Option Int32 :=
  gLoop2 (fun self4 (v1_4 : Int32) (v2_4 : Int32) =>
    if 288 ≤ v2_4 then
      some v1_4
    else
      gJoin1 (fun (v1_25 : Int32) =>
          self4 v1_25 (v2_4 + 1)) (fun j25 =>
        if gget σ 3 v2_4 ≤ 0 then
          j25 v1_4
        else
          j25 (v1_4 + 1))) N 0 0
abbrev rmX0_lineCount : Room := { frames := 1, cells := 0, slots := 0, locals := 21 }
theorem kb_X0_lineCount : g_CB yX0_lineCount cX0_lineCount 3 (some .int) 0 := ⟨kc_X0_lineCount, kn_X0, by decide +kernel⟩
set_option maxRecDepth 100000 in
set_option maxHeartbeats 4000000 in
theorem c_X0_lineCount (l : Launch) (D : va_G) (a : Nat → Nat) (cI : ClassId) (hj : g_Inj 65 a) (N : Nat) (σ : gSt) (out : Int32) (hh : f_X0_lineCount N σ = some out) : Met l yX0_lineCount (Cond.code yX0_lineCount cX0_lineCount 3 (some .int) :: gW) rmX0_lineCount (g_Pc 65 D a (gE a cI σ) [(cI, .int)] [.ref (a 2)]) (g_Qi 65 D a (gE a cI σ) out) 0 0 (g_Own 65 a) := by
  refine g_meti (by decide) hj (Nat.le_of_ble_eq_true rfl) ?_
  intro p e s m args below meth c Q ls F hl hI hq
  have hx := F.1.1
  have hb := F.1.2.1
  have hl : lv_has ls 3 [(0, .ref (a 2))] := hl
  have h := hh
  unfold f_X0_lineCount at h
  refine lv_iconst (v := 0) hx hb dX0_lineCount_0 (by decide) ?_
  refine lv_istore_n (lv' := [(1, .int 0), (0, .ref (a 2))]) hx hb dX0_lineCount_1 rfl hl (by decide) rfl (fun ls hl => ?_)
  refine lv_iconst (v := 0) hx hb dX0_lineCount_2 (by decide) ?_
  refine lv_istore_n (lv' := [(2, .int 0), (1, .int 0), (0, .ref (a 2))]) hx hb dX0_lineCount_3 rfl hl (by decide) rfl (fun ls hl => ?_)
  obtain ⟨lp4, hz4, hs4, h⟩ := gLoop2_in h
  have L4 : ∀ (n : Nat) (v1_4 : Int32) (v2_4 : Int32) (H : Heap) (locs : List Loc) (ls : Array Slot), lp4 n v1_4 v2_4 = some out → g_S 65 D a (gE a cI σ) s.heap H locs → lv_has ls 3 [(0, .ref (a 2)), (1, .int v1_4), (2, .int v2_4)] → W p l e rmX0_lineCount s m args below meth c H locs 0 0 Q (F0 m 4 ls []) := by
    intro n
    induction n with
    | zero => intro v1_4 v2_4 H locs ls h; rw [hz4] at h; cases h
    | succ n ih4 =>
      intro v1_4 v2_4 H locs ls h hI hl
      rw [hs4] at h
      refine lv_iload_n hx hb dX0_lineCount_4 rfl (lv_at hl 2 rfl) ?_
      refine lv_sipush (v := 288) hx hb dX0_lineCount_5 (by decide) ?_
      refine lv_icmp_ge (tgt := 31) hx hb dX0_lineCount_8 (by decide) (fun c_8 => ?_) (fun c_8 => ?_)
      · have h := (if_pos c_8).symm.trans h
        refine lv_iload_n hx hb dX0_lineCount_31 rfl (lv_at hl 1 rfl) ?_
        have h := Option.some.inj h
        subst h
        exact hq _ _ _ _ hI dX0_lineCount_32
      · have h := (if_neg c_8).symm.trans h
        refine lv_aload_n hx hb dX0_lineCount_11 rfl (lv_at hl 0 rfl) ?_
        refine g_get F hI (by decide) gE_2 rfl ku_X0 2 (by decide) kf_X0_20 rfl dX0_lineCount_12 ?_
        refine lv_iload_n hx hb dX0_lineCount_15 rfl (lv_at hl 2 rfl) ?_
        refine g_rget F hI 3 (by decide) km_X0_46 ⟨Nat.le_of_ble_eq_true rfl, Nat.le_of_ble_eq_true rfl⟩ hl.1 (Nat.le_of_ble_eq_true rfl) ⟨Nat.zero_le _, Nat.zero_le _⟩ dX0_lineCount_16 (fun H locs hI => ?_)
        obtain ⟨j25, hj25, h⟩ := gJoin1_in h
        have J25 : ∀ (v1_25 : Int32) (H : Heap) (locs : List Loc) (ls : Array Slot), j25 v1_25 = some out → g_S 65 D a (gE a cI σ) s.heap H locs → lv_has ls 3 [(0, .ref (a 2)), (1, .int v1_25), (2, .int v2_4)] → W p l e rmX0_lineCount s m args below meth c H locs 0 0 Q (F0 m 25 ls []) := by
          intro v1_25 H locs ls h hI hl
          rw [hj25] at h
          refine lv_iinc (v := v2_4 + 1) (lv' := [(2, .int (v2_4 + 1)), (0, .ref (a 2)), (1, .int v1_25)]) hx hb dX0_lineCount_25 hl (k := 2) rfl rfl (by decide) rfl (fun ls hl => ?_)
          refine lv_goto (tgt := 4) hx hb dX0_lineCount_28 (by decide) ?_
          exact ih4 _ _ _ _ _ h hI (lv_sub hl [1, 2, 0] rfl)
        refine lv_if_le (tgt := 25) hx hb dX0_lineCount_19 (by decide) (fun c_19 => ?_) (fun c_19 => ?_)
        · have h := (if_pos c_19).symm.trans h
          exact J25 _ _ _ _ h hI (lv_sub hl [0, 1, 2] rfl)
        · have h := (if_neg c_19).symm.trans h
          refine lv_iinc (v := v1_4 + 1) (lv' := [(1, .int (v1_4 + 1)), (0, .ref (a 2)), (2, .int v2_4)]) hx hb dX0_lineCount_22 hl (k := 1) rfl rfl (by decide) rfl (fun ls hl => ?_)
          exact J25 _ _ _ _ h hI (lv_sub hl [1, 0, 2] rfl)
  exact L4 _ _ _ _ _ _ h hI (lv_sub hl [2, 1, 0] rfl)
/-- Spurline$Contours.ringCount()I -/
def f_X0_ringCount (N : Nat) (σ : gSt) : Option Int32 :=
  gLoop2 (fun self4 (v1_4 : Int32) (v2_4 : Int32) =>
    if 288 ≤ v2_4 then
      some v1_4
    else
      gJoin1 (fun (v1_36 : Int32) =>
          self4 v1_36 (v2_4 + 1)) (fun j36 =>
        if gget σ 3 v2_4 ≤ 0 then
          j36 v1_4
        else
          if gget σ 4 v2_4 = 0 then
            j36 (v1_4 + 1)
          else
            j36 v1_4)) N 0 0
abbrev rmX0_ringCount : Room := { frames := 1, cells := 0, slots := 0, locals := 21 }
theorem kb_X0_ringCount : g_CB yX0_ringCount cX0_ringCount 3 (some .int) 0 := ⟨kc_X0_ringCount, kn_X0, by decide +kernel⟩
set_option maxRecDepth 100000 in
set_option maxHeartbeats 4000000 in
theorem c_X0_ringCount (l : Launch) (D : va_G) (a : Nat → Nat) (cI : ClassId) (hj : g_Inj 65 a) (N : Nat) (σ : gSt) (out : Int32) (hh : f_X0_ringCount N σ = some out) : Met l yX0_ringCount (Cond.code yX0_ringCount cX0_ringCount 3 (some .int) :: gW) rmX0_ringCount (g_Pc 65 D a (gE a cI σ) [(cI, .int)] [.ref (a 2)]) (g_Qi 65 D a (gE a cI σ) out) 0 0 (g_Own 65 a) := by
  refine g_meti (by decide) hj (Nat.le_of_ble_eq_true rfl) ?_
  intro p e s m args below meth c Q ls F hl hI hq
  have hx := F.1.1
  have hb := F.1.2.1
  have hl : lv_has ls 3 [(0, .ref (a 2))] := hl
  have h := hh
  unfold f_X0_ringCount at h
  refine lv_iconst (v := 0) hx hb dX0_ringCount_0 (by decide) ?_
  refine lv_istore_n (lv' := [(1, .int 0), (0, .ref (a 2))]) hx hb dX0_ringCount_1 rfl hl (by decide) rfl (fun ls hl => ?_)
  refine lv_iconst (v := 0) hx hb dX0_ringCount_2 (by decide) ?_
  refine lv_istore_n (lv' := [(2, .int 0), (1, .int 0), (0, .ref (a 2))]) hx hb dX0_ringCount_3 rfl hl (by decide) rfl (fun ls hl => ?_)
  obtain ⟨lp4, hz4, hs4, h⟩ := gLoop2_in h
  have L4 : ∀ (n : Nat) (v1_4 : Int32) (v2_4 : Int32) (H : Heap) (locs : List Loc) (ls : Array Slot), lp4 n v1_4 v2_4 = some out → g_S 65 D a (gE a cI σ) s.heap H locs → lv_has ls 3 [(0, .ref (a 2)), (1, .int v1_4), (2, .int v2_4)] → W p l e rmX0_ringCount s m args below meth c H locs 0 0 Q (F0 m 4 ls []) := by
    intro n
    induction n with
    | zero => intro v1_4 v2_4 H locs ls h; rw [hz4] at h; cases h
    | succ n ih4 =>
      intro v1_4 v2_4 H locs ls h hI hl
      rw [hs4] at h
      refine lv_iload_n hx hb dX0_ringCount_4 rfl (lv_at hl 2 rfl) ?_
      refine lv_sipush (v := 288) hx hb dX0_ringCount_5 (by decide) ?_
      refine lv_icmp_ge (tgt := 42) hx hb dX0_ringCount_8 (by decide) (fun c_8 => ?_) (fun c_8 => ?_)
      · have h := (if_pos c_8).symm.trans h
        refine lv_iload_n hx hb dX0_ringCount_42 rfl (lv_at hl 1 rfl) ?_
        have h := Option.some.inj h
        subst h
        exact hq _ _ _ _ hI dX0_ringCount_43
      · have h := (if_neg c_8).symm.trans h
        refine lv_aload_n hx hb dX0_ringCount_11 rfl (lv_at hl 0 rfl) ?_
        refine g_get F hI (by decide) gE_2 rfl ku_X0 2 (by decide) kf_X0_20 rfl dX0_ringCount_12 ?_
        refine lv_iload_n hx hb dX0_ringCount_15 rfl (lv_at hl 2 rfl) ?_
        refine g_rget F hI 3 (by decide) km_X0_46 ⟨Nat.le_of_ble_eq_true rfl, Nat.le_of_ble_eq_true rfl⟩ hl.1 (Nat.le_of_ble_eq_true rfl) ⟨Nat.zero_le _, Nat.zero_le _⟩ dX0_ringCount_16 (fun H locs hI => ?_)
        obtain ⟨j36, hj36, h⟩ := gJoin1_in h
        have J36 : ∀ (v1_36 : Int32) (H : Heap) (locs : List Loc) (ls : Array Slot), j36 v1_36 = some out → g_S 65 D a (gE a cI σ) s.heap H locs → lv_has ls 3 [(0, .ref (a 2)), (1, .int v1_36), (2, .int v2_4)] → W p l e rmX0_ringCount s m args below meth c H locs 0 0 Q (F0 m 36 ls []) := by
          intro v1_36 H locs ls h hI hl
          rw [hj36] at h
          refine lv_iinc (v := v2_4 + 1) (lv' := [(2, .int (v2_4 + 1)), (0, .ref (a 2)), (1, .int v1_36)]) hx hb dX0_ringCount_36 hl (k := 2) rfl rfl (by decide) rfl (fun ls hl => ?_)
          refine lv_goto (tgt := 4) hx hb dX0_ringCount_39 (by decide) ?_
          exact ih4 _ _ _ _ _ h hI (lv_sub hl [1, 2, 0] rfl)
        refine lv_if_le (tgt := 36) hx hb dX0_ringCount_19 (by decide) (fun c_19 => ?_) (fun c_19 => ?_)
        · have h := (if_pos c_19).symm.trans h
          exact J36 _ _ _ _ h hI (lv_sub hl [0, 1, 2] rfl)
        · have h := (if_neg c_19).symm.trans h
          refine lv_aload_n hx hb dX0_ringCount_22 rfl (lv_at hl 0 rfl) ?_
          refine g_get F hI (by decide) gE_2 rfl ku_X0 3 (by decide) kf_X0_23 rfl dX0_ringCount_23 ?_
          refine lv_iload_n hx hb dX0_ringCount_26 rfl (lv_at hl 2 rfl) ?_
          refine g_rget F hI 4 (by decide) km_X0_46 ⟨Nat.le_of_ble_eq_true rfl, Nat.le_of_ble_eq_true rfl⟩ hl.1 (Nat.le_of_ble_eq_true rfl) ⟨Nat.zero_le _, Nat.zero_le _⟩ dX0_ringCount_27 (fun H locs hI => ?_)
          refine lv_if_ne (tgt := 36) hx hb dX0_ringCount_30 (by decide) (fun c_30 => ?_) (fun c_30 => ?_)
          · have h := (if_neg c_30).symm.trans h
            exact J36 _ _ _ _ h hI (lv_sub hl [0, 1, 2] rfl)
          · have h := (if_pos c_30).symm.trans h
            refine lv_iinc (v := v1_4 + 1) (lv' := [(1, .int (v1_4 + 1)), (0, .ref (a 2)), (2, .int v2_4)]) hx hb dX0_ringCount_33 hl (k := 1) rfl rfl (by decide) rfl (fun ls hl => ?_)
            exact J36 _ _ _ _ h hI (lv_sub hl [1, 0, 2] rfl)
  exact L4 _ _ _ _ _ _ h hI (lv_sub hl [2, 1, 0] rfl)
/-- Spurline$Contours.mostGaps()I -/
def f_X0_mostGaps (N : Nat) (σ : gSt) : Option Int32 :=
  gLoop2 (fun self4 (v1_4 : Int32) (v2_4 : Int32) =>
    if 288 ≤ v2_4 then
      some v1_4
    else
      self4 (jmax v1_4 (gget σ 3 v2_4)) (v2_4 + 1)) N 0 0
abbrev rmX0_mostGaps : Room := { frames := 1, cells := 0, slots := 0, locals := 21 }
theorem kb_X0_mostGaps : g_CB yX0_mostGaps cX0_mostGaps 3 (some .int) 0 := ⟨kc_X0_mostGaps, kn_X0, by decide +kernel⟩
set_option maxRecDepth 100000 in
set_option maxHeartbeats 4000000 in
theorem c_X0_mostGaps (l : Launch) (D : va_G) (a : Nat → Nat) (cI : ClassId) (hj : g_Inj 65 a) (N : Nat) (σ : gSt) (out : Int32) (hh : f_X0_mostGaps N σ = some out) : Met l yX0_mostGaps (Cond.code yX0_mostGaps cX0_mostGaps 3 (some .int) :: gW) rmX0_mostGaps (g_Pc 65 D a (gE a cI σ) [(cI, .int)] [.ref (a 2)]) (g_Qi 65 D a (gE a cI σ) out) 0 0 (g_Own 65 a) := by
  refine g_meti (by decide) hj (Nat.le_of_ble_eq_true rfl) ?_
  intro p e s m args below meth c Q ls F hl hI hq
  have hx := F.1.1
  have hb := F.1.2.1
  have hl : lv_has ls 3 [(0, .ref (a 2))] := hl
  have h := hh
  unfold f_X0_mostGaps at h
  refine lv_iconst (v := 0) hx hb dX0_mostGaps_0 (by decide) ?_
  refine lv_istore_n (lv' := [(1, .int 0), (0, .ref (a 2))]) hx hb dX0_mostGaps_1 rfl hl (by decide) rfl (fun ls hl => ?_)
  refine lv_iconst (v := 0) hx hb dX0_mostGaps_2 (by decide) ?_
  refine lv_istore_n (lv' := [(2, .int 0), (1, .int 0), (0, .ref (a 2))]) hx hb dX0_mostGaps_3 rfl hl (by decide) rfl (fun ls hl => ?_)
  obtain ⟨lp4, hz4, hs4, h⟩ := gLoop2_in h
  have L4 : ∀ (n : Nat) (v1_4 : Int32) (v2_4 : Int32) (H : Heap) (locs : List Loc) (ls : Array Slot), lp4 n v1_4 v2_4 = some out → g_S 65 D a (gE a cI σ) s.heap H locs → lv_has ls 3 [(0, .ref (a 2)), (1, .int v1_4), (2, .int v2_4)] → W p l e rmX0_mostGaps s m args below meth c H locs 0 0 Q (F0 m 4 ls []) := by
    intro n
    induction n with
    | zero => intro v1_4 v2_4 H locs ls h; rw [hz4] at h; cases h
    | succ n ih4 =>
      intro v1_4 v2_4 H locs ls h hI hl
      rw [hs4] at h
      refine lv_iload_n hx hb dX0_mostGaps_4 rfl (lv_at hl 2 rfl) ?_
      refine lv_sipush (v := 288) hx hb dX0_mostGaps_5 (by decide) ?_
      refine lv_icmp_ge (tgt := 30) hx hb dX0_mostGaps_8 (by decide) (fun c_8 => ?_) (fun c_8 => ?_)
      · have h := (if_pos c_8).symm.trans h
        refine lv_iload_n hx hb dX0_mostGaps_30 rfl (lv_at hl 1 rfl) ?_
        have h := Option.some.inj h
        subst h
        exact hq _ _ _ _ hI dX0_mostGaps_31
      · have h := (if_neg c_8).symm.trans h
        refine lv_iload_n hx hb dX0_mostGaps_11 rfl (lv_at hl 1 rfl) ?_
        refine lv_aload_n hx hb dX0_mostGaps_12 rfl (lv_at hl 0 rfl) ?_
        refine g_get F hI (by decide) gE_2 rfl ku_X0 2 (by decide) kf_X0_20 rfl dX0_mostGaps_13 ?_
        refine lv_iload_n hx hb dX0_mostGaps_16 rfl (lv_at hl 2 rfl) ?_
        refine g_rget F hI 3 (by decide) km_X0_46 ⟨Nat.le_of_ble_eq_true rfl, Nat.le_of_ble_eq_true rfl⟩ hl.1 (Nat.le_of_ble_eq_true rfl) ⟨Nat.zero_le _, Nat.zero_le _⟩ dX0_mostGaps_17 (fun H locs hI => ?_)
        refine g_mmax F hl.1 km_X0_50 ⟨Nat.le_of_ble_eq_true rfl, Nat.le_of_ble_eq_true rfl⟩ ⟨Nat.zero_le _, Nat.zero_le _⟩ dX0_mostGaps_20 ?_
        refine lv_istore_n (lv' := [(1, .int (jmax v1_4 (gget σ 3 v2_4))), (0, .ref (a 2)), (2, .int v2_4)]) hx hb dX0_mostGaps_23 rfl hl (by decide) rfl (fun ls hl => ?_)
        refine lv_iinc (v := v2_4 + 1) (lv' := [(2, .int (v2_4 + 1)), (1, .int (jmax v1_4 (gget σ 3 v2_4))), (0, .ref (a 2))]) hx hb dX0_mostGaps_24 hl (k := 2) rfl rfl (by decide) rfl (fun ls hl => ?_)
        refine lv_goto (tgt := 4) hx hb dX0_mostGaps_27 (by decide) ?_
        exact ih4 _ _ _ _ _ h hI (lv_sub hl [2, 1, 0] rfl)
  exact L4 _ _ _ _ _ _ h hI (lv_sub hl [2, 1, 0] rfl)
/-- Spurline$Routes.costTo(I)I -/
def f_X6_costTo (σ : gSt) (x1 : Int32) : Int32 :=
  gget σ 5 x1
abbrev rmX6_costTo : Room := { frames := 1, cells := 0, slots := 0, locals := 21 }
theorem kb_X6_costTo : g_CB yX6_costTo cX6_costTo 2 (some .int) 1 := ⟨kc_X6_costTo, kn_X6, by decide +kernel⟩
set_option maxRecDepth 100000 in
set_option maxHeartbeats 4000000 in
theorem c_X6_costTo (l : Launch) (D : va_G) (a : Nat → Nat) (cI : ClassId) (hj : g_Inj 65 a) (σ : gSt) (x1 : Int32) : Met l yX6_costTo (Cond.code yX6_costTo cX6_costTo 2 (some .int) :: gW) rmX6_costTo (g_Pc 65 D a (gE a cI σ) [(cI, .int)] [.ref (a 3), .int x1]) (g_Qi 65 D a (gE a cI σ) (f_X6_costTo σ x1)) 0 0 (g_Own 65 a) := by
  generalize hh : f_X6_costTo σ x1 = out
  refine g_meti (by decide) hj (Nat.le_of_ble_eq_true rfl) ?_
  intro p e s m args below meth c Q ls F hl hI hq
  have hx := F.1.1
  have hb := F.1.2.1
  have hl : lv_has ls 2 [(0, .ref (a 3)), (1, .int x1)] := hl
  have h := hh
  unfold f_X6_costTo at h
  refine lv_aload_n hx hb dX6_costTo_0 rfl (lv_at hl 0 rfl) ?_
  refine g_get F hI (by decide) gE_3 rfl ku_X6 1 (by decide) kf_X6_14 rfl dX6_costTo_1 ?_
  refine lv_iload_n hx hb dX6_costTo_4 rfl (lv_at hl 1 rfl) ?_
  refine g_rget F hI 5 (by decide) km_X6_30 ⟨Nat.le_of_ble_eq_true rfl, Nat.le_of_ble_eq_true rfl⟩ hl.1 (Nat.le_of_ble_eq_true rfl) ⟨Nat.zero_le _, Nat.zero_le _⟩ dX6_costTo_5 (fun H locs hI => ?_)
  subst h
  exact hq _ _ _ _ hI dX6_costTo_8
/-- Spurline$Routes.climbTo(I)I -/
def f_X6_climbTo (σ : gSt) (x1 : Int32) : Int32 :=
  gget σ 6 x1
abbrev rmX6_climbTo : Room := { frames := 1, cells := 0, slots := 0, locals := 21 }
theorem kb_X6_climbTo : g_CB yX6_climbTo cX6_climbTo 2 (some .int) 1 := ⟨kc_X6_climbTo, kn_X6, by decide +kernel⟩
set_option maxRecDepth 100000 in
set_option maxHeartbeats 4000000 in
theorem c_X6_climbTo (l : Launch) (D : va_G) (a : Nat → Nat) (cI : ClassId) (hj : g_Inj 65 a) (σ : gSt) (x1 : Int32) : Met l yX6_climbTo (Cond.code yX6_climbTo cX6_climbTo 2 (some .int) :: gW) rmX6_climbTo (g_Pc 65 D a (gE a cI σ) [(cI, .int)] [.ref (a 3), .int x1]) (g_Qi 65 D a (gE a cI σ) (f_X6_climbTo σ x1)) 0 0 (g_Own 65 a) := by
  generalize hh : f_X6_climbTo σ x1 = out
  refine g_meti (by decide) hj (Nat.le_of_ble_eq_true rfl) ?_
  intro p e s m args below meth c Q ls F hl hI hq
  have hx := F.1.1
  have hb := F.1.2.1
  have hl : lv_has ls 2 [(0, .ref (a 3)), (1, .int x1)] := hl
  have h := hh
  unfold f_X6_climbTo at h
  refine lv_aload_n hx hb dX6_climbTo_0 rfl (lv_at hl 0 rfl) ?_
  refine g_get F hI (by decide) gE_3 rfl ku_X6 2 (by decide) kf_X6_20 rfl dX6_climbTo_1 ?_
  refine lv_iload_n hx hb dX6_climbTo_4 rfl (lv_at hl 1 rfl) ?_
  refine g_rget F hI 6 (by decide) km_X6_30 ⟨Nat.le_of_ble_eq_true rfl, Nat.le_of_ble_eq_true rfl⟩ hl.1 (Nat.le_of_ble_eq_true rfl) ⟨Nat.zero_le _, Nat.zero_le _⟩ dX6_climbTo_5 (fun H locs hI => ?_)
  subst h
  exact hq _ _ _ _ hI dX6_climbTo_8
/-- Spurline$Routes.begin(I)V -/
def f_X6_begin (σ : gSt) (x1 : Int32) : gSt :=
  gput (gput (gfill (gfill σ 5 (-1)) 6 (-1)) 5 x1 0) 6 x1 0
abbrev rmX6_begin : Room := { frames := 1, cells := 0, slots := 0, locals := 22 }
theorem kb_X6_begin : g_CB yX6_begin cX6_begin 2 none 1 := ⟨kc_X6_begin, kn_X6, by decide +kernel⟩
set_option maxRecDepth 100000 in
set_option maxHeartbeats 4000000 in
theorem c_X6_begin (l : Launch) (D : va_G) (a : Nat → Nat) (cI : ClassId) (hj : g_Inj 65 a) (σ : gSt) (x1 : Int32) : Met l yX6_begin (Cond.code yX6_begin cX6_begin 2 none :: gW) rmX6_begin (g_Pc 65 D a (gE a cI σ) [(cI, .int)] [.ref (a 3), .int x1]) (g_Qv 65 D a (gE a cI (f_X6_begin σ x1))) 0 0 (g_Own 65 a) := by
  generalize hh : f_X6_begin σ x1 = out
  refine g_metv (by decide) hj (Nat.le_of_ble_eq_true rfl) ?_
  intro p e s m args below meth c Q ls F hl hI hq
  have hx := F.1.1
  have hb := F.1.2.1
  have hl : lv_has ls 2 [(0, .ref (a 3)), (1, .int x1)] := hl
  have h := hh
  unfold f_X6_begin at h
  refine lv_aload_n hx hb dX6_begin_0 rfl (lv_at hl 0 rfl) ?_
  refine g_get F hI (by decide) gE_3 rfl ku_X6 1 (by decide) kf_X6_14 rfl dX6_begin_1 ?_
  refine lv_iconst (v := -1) hx hb dX6_begin_4 (by decide) ?_
  refine g_rfill F hI 5 (by decide) km_X6_57 ⟨Nat.le_of_ble_eq_true rfl, Nat.le_of_ble_eq_true rfl⟩ hl.1 (Nat.le_of_ble_eq_true rfl) ⟨Nat.zero_le _, Nat.zero_le _⟩ dX6_begin_5 (fun H locs hI => ?_)
  refine lv_aload_n hx hb dX6_begin_8 rfl (lv_at hl 0 rfl) ?_
  refine g_get F hI (by decide) gE_3 rfl ku_X6 2 (by decide) kf_X6_20 rfl dX6_begin_9 ?_
  refine lv_iconst (v := -1) hx hb dX6_begin_12 (by decide) ?_
  refine g_rfill F hI 6 (by decide) km_X6_57 ⟨Nat.le_of_ble_eq_true rfl, Nat.le_of_ble_eq_true rfl⟩ hl.1 (Nat.le_of_ble_eq_true rfl) ⟨Nat.zero_le _, Nat.zero_le _⟩ dX6_begin_13 (fun H locs hI => ?_)
  refine lv_aload_n hx hb dX6_begin_16 rfl (lv_at hl 0 rfl) ?_
  refine g_get F hI (by decide) gE_3 rfl ku_X6 1 (by decide) kf_X6_14 rfl dX6_begin_17 ?_
  refine lv_iload_n hx hb dX6_begin_20 rfl (lv_at hl 1 rfl) ?_
  refine lv_iconst (v := 0) hx hb dX6_begin_21 (by decide) ?_
  refine g_rput F hI 5 (by decide) km_X6_37 ⟨Nat.le_of_ble_eq_true rfl, Nat.le_of_ble_eq_true rfl⟩ hl.1 (Nat.le_of_ble_eq_true rfl) ⟨Nat.zero_le _, Nat.zero_le _⟩ dX6_begin_22 (fun H locs hI => ?_)
  refine lv_aload_n hx hb dX6_begin_25 rfl (lv_at hl 0 rfl) ?_
  refine g_get F hI (by decide) gE_3 rfl ku_X6 2 (by decide) kf_X6_20 rfl dX6_begin_26 ?_
  refine lv_iload_n hx hb dX6_begin_29 rfl (lv_at hl 1 rfl) ?_
  refine lv_iconst (v := 0) hx hb dX6_begin_30 (by decide) ?_
  refine g_rput F hI 6 (by decide) km_X6_37 ⟨Nat.le_of_ble_eq_true rfl, Nat.le_of_ble_eq_true rfl⟩ hl.1 (Nat.le_of_ble_eq_true rfl) ⟨Nat.zero_le _, Nat.zero_le _⟩ dX6_begin_31 (fun H locs hI => ?_)
  subst h
  exact hq _ _ _ _ hI dX6_begin_34
/-- Spurline$Routes.takeNearest()I -/
def f_X6_takeNearest (N : Nat) (σ : gSt) : Option (Int32 × gSt) :=
  gLoop2 (fun self4 (v1_4 : Int32) (v2_4 : Int32) =>
    if σ.2 3 ≤ v2_4 then
      some (gget σ 7 v1_4, gput (g_sf σ 3 ((σ.2 3) - 1)) 7 v1_4 (gget (g_sf σ 3 ((σ.2 3) - 1)) 7 ((g_sf σ 3 ((σ.2 3) - 1)).2 3)))
    else
      gJoin1 (fun (v1_47 : Int32) =>
          self4 v1_47 (v2_4 + 1)) (fun j47 =>
        if gget σ 5 (gget σ 7 v1_4) ≤ gget σ 5 (gget σ 7 v2_4) then
          j47 v1_4
        else
          j47 v2_4)) N 0 1
abbrev rmX6_takeNearest : Room := { frames := 1, cells := 0, slots := 0, locals := 22 }
theorem kb_X6_takeNearest : g_CB yX6_takeNearest cX6_takeNearest 3 (some .int) 0 := ⟨kc_X6_takeNearest, kn_X6, by decide +kernel⟩
set_option maxRecDepth 100000 in
set_option maxHeartbeats 4000000 in
theorem c_X6_takeNearest (l : Launch) (D : va_G) (a : Nat → Nat) (cI : ClassId) (hj : g_Inj 65 a) (N : Nat) (σ : gSt) (out : Int32 × gSt) (hh : f_X6_takeNearest N σ = some out) : Met l yX6_takeNearest (Cond.code yX6_takeNearest cX6_takeNearest 3 (some .int) :: gW) rmX6_takeNearest (g_Pc 65 D a (gE a cI σ) [(cI, .int)] [.ref (a 3)]) (g_Qi 65 D a (gE a cI out.2) out.1) 0 0 (g_Own 65 a) := by
  refine g_meti (by decide) hj (Nat.le_of_ble_eq_true rfl) ?_
  intro p e s m args below meth c Q ls F hl hI hq
  have hx := F.1.1
  have hb := F.1.2.1
  have hl : lv_has ls 3 [(0, .ref (a 3))] := hl
  have h := hh
  unfold f_X6_takeNearest at h
  refine lv_iconst (v := 0) hx hb dX6_takeNearest_0 (by decide) ?_
  refine lv_istore_n (lv' := [(1, .int 0), (0, .ref (a 3))]) hx hb dX6_takeNearest_1 rfl hl (by decide) rfl (fun ls hl => ?_)
  refine lv_iconst (v := 1) hx hb dX6_takeNearest_2 (by decide) ?_
  refine lv_istore_n (lv' := [(2, .int 1), (1, .int 0), (0, .ref (a 3))]) hx hb dX6_takeNearest_3 rfl hl (by decide) rfl (fun ls hl => ?_)
  obtain ⟨lp4, hz4, hs4, h⟩ := gLoop2_in h
  have L4 : ∀ (n : Nat) (v1_4 : Int32) (v2_4 : Int32) (H : Heap) (locs : List Loc) (ls : Array Slot), lp4 n v1_4 v2_4 = some out → g_S 65 D a (gE a cI σ) s.heap H locs → lv_has ls 3 [(0, .ref (a 3)), (1, .int v1_4), (2, .int v2_4)] → W p l e rmX6_takeNearest s m args below meth c H locs 0 0 Q (F0 m 4 ls []) := by
    intro n
    induction n with
    | zero => intro v1_4 v2_4 H locs ls h; rw [hz4] at h; cases h
    | succ n ih4 =>
      intro v1_4 v2_4 H locs ls h hI hl
      rw [hs4] at h
      refine lv_iload_n hx hb dX6_takeNearest_4 rfl (lv_at hl 2 rfl) ?_
      refine lv_aload_n hx hb dX6_takeNearest_5 rfl (lv_at hl 0 rfl) ?_
      refine g_get F hI (by decide) gE_3 rfl ku_X6 4 (by decide) kf_X6_41 rfl dX6_takeNearest_6 ?_
      refine lv_icmp_ge (tgt := 53) hx hb dX6_takeNearest_9 (by decide) (fun c_9 => ?_) (fun c_9 => ?_)
      · have h := (if_pos c_9).symm.trans h
        refine lv_aload_n hx hb dX6_takeNearest_53 rfl (lv_at hl 0 rfl) ?_
        refine g_get F hI (by decide) gE_3 rfl ku_X6 3 (by decide) kf_X6_23 rfl dX6_takeNearest_54 ?_
        refine lv_iload_n hx hb dX6_takeNearest_57 rfl (lv_at hl 1 rfl) ?_
        refine g_rget F hI 7 (by decide) km_X6_30 ⟨Nat.le_of_ble_eq_true rfl, Nat.le_of_ble_eq_true rfl⟩ hl.1 (Nat.le_of_ble_eq_true rfl) ⟨Nat.zero_le _, Nat.zero_le _⟩ dX6_takeNearest_58 (fun H locs hI => ?_)
        refine lv_istore_n (lv' := [(2, .int (gget σ 7 v1_4)), (0, .ref (a 3)), (1, .int v1_4)]) hx hb dX6_takeNearest_61 rfl hl (by decide) rfl (fun ls hl => ?_)
        refine lv_aload_n hx hb dX6_takeNearest_62 rfl (lv_at hl 1 rfl) ?_
        refine lv_dup hx hb dX6_takeNearest_63 rfl ?_
        refine g_get F hI (by decide) gE_3 rfl ku_X6 4 (by decide) kf_X6_41 rfl dX6_takeNearest_64 ?_
        refine lv_iconst (v := 1) hx hb dX6_takeNearest_67 (by decide) ?_
        refine lv_isub hx hb dX6_takeNearest_68 ?_
        refine g_put (E' := gE a cI (g_sf σ 3 ((σ.2 3) - 1))) F hI (by decide) gE_3 rfl ku_X6 tyX6_ok nmX6 4 (by decide) kf_X6_41 rfl rfl rfl rfl (Nat.le_of_ble_eq_true rfl) rfl gE_sf_3 dX6_takeNearest_69 (fun H locs hI => ?_)
        refine lv_aload_n hx hb dX6_takeNearest_72 rfl (lv_at hl 1 rfl) ?_
        refine g_get F hI (by decide) gE_3 rfl ku_X6 3 (by decide) kf_X6_23 rfl dX6_takeNearest_73 ?_
        refine lv_iload_n hx hb dX6_takeNearest_76 rfl (lv_at hl 2 rfl) ?_
        refine lv_aload_n hx hb dX6_takeNearest_77 rfl (lv_at hl 1 rfl) ?_
        refine g_get F hI (by decide) gE_3 rfl ku_X6 3 (by decide) kf_X6_23 rfl dX6_takeNearest_78 ?_
        refine lv_aload_n hx hb dX6_takeNearest_81 rfl (lv_at hl 1 rfl) ?_
        refine g_get F hI (by decide) gE_3 rfl ku_X6 4 (by decide) kf_X6_41 rfl dX6_takeNearest_82 ?_
        refine g_rget F hI 7 (by decide) km_X6_30 ⟨Nat.le_of_ble_eq_true rfl, Nat.le_of_ble_eq_true rfl⟩ hl.1 (Nat.le_of_ble_eq_true rfl) ⟨Nat.zero_le _, Nat.zero_le _⟩ dX6_takeNearest_85 (fun H locs hI => ?_)
        refine g_rput F hI 7 (by decide) km_X6_37 ⟨Nat.le_of_ble_eq_true rfl, Nat.le_of_ble_eq_true rfl⟩ hl.1 (Nat.le_of_ble_eq_true rfl) ⟨Nat.zero_le _, Nat.zero_le _⟩ dX6_takeNearest_88 (fun H locs hI => ?_)
        refine lv_iload_n hx hb dX6_takeNearest_91 rfl (lv_at hl 0 rfl) ?_
        have h := Option.some.inj h
        subst h
        exact hq _ _ _ _ hI dX6_takeNearest_92
      · have h := (if_neg c_9).symm.trans h
        refine lv_aload_n hx hb dX6_takeNearest_12 rfl (lv_at hl 0 rfl) ?_
        refine g_get F hI (by decide) gE_3 rfl ku_X6 1 (by decide) kf_X6_14 rfl dX6_takeNearest_13 ?_
        refine lv_aload_n hx hb dX6_takeNearest_16 rfl (lv_at hl 0 rfl) ?_
        refine g_get F hI (by decide) gE_3 rfl ku_X6 3 (by decide) kf_X6_23 rfl dX6_takeNearest_17 ?_
        refine lv_iload_n hx hb dX6_takeNearest_20 rfl (lv_at hl 2 rfl) ?_
        refine g_rget F hI 7 (by decide) km_X6_30 ⟨Nat.le_of_ble_eq_true rfl, Nat.le_of_ble_eq_true rfl⟩ hl.1 (Nat.le_of_ble_eq_true rfl) ⟨Nat.zero_le _, Nat.zero_le _⟩ dX6_takeNearest_21 (fun H locs hI => ?_)
        refine g_rget F hI 5 (by decide) km_X6_30 ⟨Nat.le_of_ble_eq_true rfl, Nat.le_of_ble_eq_true rfl⟩ hl.1 (Nat.le_of_ble_eq_true rfl) ⟨Nat.zero_le _, Nat.zero_le _⟩ dX6_takeNearest_24 (fun H locs hI => ?_)
        refine lv_aload_n hx hb dX6_takeNearest_27 rfl (lv_at hl 0 rfl) ?_
        refine g_get F hI (by decide) gE_3 rfl ku_X6 1 (by decide) kf_X6_14 rfl dX6_takeNearest_28 ?_
        refine lv_aload_n hx hb dX6_takeNearest_31 rfl (lv_at hl 0 rfl) ?_
        refine g_get F hI (by decide) gE_3 rfl ku_X6 3 (by decide) kf_X6_23 rfl dX6_takeNearest_32 ?_
        refine lv_iload_n hx hb dX6_takeNearest_35 rfl (lv_at hl 1 rfl) ?_
        refine g_rget F hI 7 (by decide) km_X6_30 ⟨Nat.le_of_ble_eq_true rfl, Nat.le_of_ble_eq_true rfl⟩ hl.1 (Nat.le_of_ble_eq_true rfl) ⟨Nat.zero_le _, Nat.zero_le _⟩ dX6_takeNearest_36 (fun H locs hI => ?_)
        refine g_rget F hI 5 (by decide) km_X6_30 ⟨Nat.le_of_ble_eq_true rfl, Nat.le_of_ble_eq_true rfl⟩ hl.1 (Nat.le_of_ble_eq_true rfl) ⟨Nat.zero_le _, Nat.zero_le _⟩ dX6_takeNearest_39 (fun H locs hI => ?_)
        obtain ⟨j47, hj47, h⟩ := gJoin1_in h
        have J47 : ∀ (v1_47 : Int32) (H : Heap) (locs : List Loc) (ls : Array Slot), j47 v1_47 = some out → g_S 65 D a (gE a cI σ) s.heap H locs → lv_has ls 3 [(0, .ref (a 3)), (1, .int v1_47), (2, .int v2_4)] → W p l e rmX6_takeNearest s m args below meth c H locs 0 0 Q (F0 m 47 ls []) := by
          intro v1_47 H locs ls h hI hl
          rw [hj47] at h
          refine lv_iinc (v := v2_4 + 1) (lv' := [(2, .int (v2_4 + 1)), (0, .ref (a 3)), (1, .int v1_47)]) hx hb dX6_takeNearest_47 hl (k := 2) rfl rfl (by decide) rfl (fun ls hl => ?_)
          refine lv_goto (tgt := 4) hx hb dX6_takeNearest_50 (by decide) ?_
          exact ih4 _ _ _ _ _ h hI (lv_sub hl [1, 2, 0] rfl)
        refine lv_icmp_ge (tgt := 47) hx hb dX6_takeNearest_42 (by decide) (fun c_42 => ?_) (fun c_42 => ?_)
        · have h := (if_pos c_42).symm.trans h
          exact J47 _ _ _ _ h hI (lv_sub hl [0, 1, 2] rfl)
        · have h := (if_neg c_42).symm.trans h
          refine lv_iload_n hx hb dX6_takeNearest_45 rfl (lv_at hl 2 rfl) ?_
          refine lv_istore_n (lv' := [(1, .int v2_4), (0, .ref (a 3)), (2, .int v2_4)]) hx hb dX6_takeNearest_46 rfl hl (by decide) rfl (fun ls hl => ?_)
          exact J47 _ _ _ _ h hI (lv_sub hl [1, 0, 2] rfl)
  exact L4 _ _ _ _ _ _ h hI (lv_sub hl [2, 1, 0] rfl)
/-- Spurline$Routes.offer(III)V -/
def f_X6_offer (σ : gSt) (x1 x2 x3 : Int32) : gSt :=
  gJoin1 (fun (s_38 : gSt) =>
      gJoin0 (
          gput (gput s_38 5 x1 x2) 6 x1 x3) (fun j68 =>
        if gget σ 5 x1 = (-1) then
          j68
        else
          if x2 < gget σ 5 x1 then
            j68
          else
            if x2 = gget σ 5 x1 then
              if gget s_38 6 x1 ≤ x3 then
                s_38
              else
                j68
            else
              s_38)) (fun j38 =>
    if gget σ 5 x1 = (-1) then
      j38 (g_sf (gput σ 7 (σ.2 3) x1) 3 (((gput σ 7 (σ.2 3) x1).2 3) + 1))
    else
      j38 σ)
abbrev rmX6_offer : Room := { frames := 1, cells := 0, slots := 0, locals := 22 }
theorem kb_X6_offer : g_CB yX6_offer cX6_offer 5 none 3 := ⟨kc_X6_offer, kn_X6, by decide +kernel⟩
set_option maxRecDepth 100000 in
set_option maxHeartbeats 4000000 in
theorem c_X6_offer (l : Launch) (D : va_G) (a : Nat → Nat) (cI : ClassId) (hj : g_Inj 65 a) (σ : gSt) (x1 x2 x3 : Int32) : Met l yX6_offer (Cond.code yX6_offer cX6_offer 5 none :: gW) rmX6_offer (g_Pc 65 D a (gE a cI σ) [(cI, .int)] [.ref (a 3), .int x1, .int x2, .int x3]) (g_Qv 65 D a (gE a cI (f_X6_offer σ x1 x2 x3))) 0 0 (g_Own 65 a) := by
  generalize hh : f_X6_offer σ x1 x2 x3 = out
  refine g_metv (by decide) hj (Nat.le_of_ble_eq_true rfl) ?_
  intro p e s m args below meth c Q ls F hl hI hq
  have hx := F.1.1
  have hb := F.1.2.1
  have hl : lv_has ls 5 [(0, .ref (a 3)), (1, .int x1), (2, .int x2), (3, .int x3)] := hl
  have h := hh
  unfold f_X6_offer at h
  refine lv_aload_n hx hb dX6_offer_0 rfl (lv_at hl 0 rfl) ?_
  refine g_get F hI (by decide) gE_3 rfl ku_X6 1 (by decide) kf_X6_14 rfl dX6_offer_1 ?_
  refine lv_iload_n hx hb dX6_offer_4 rfl (lv_at hl 1 rfl) ?_
  refine g_rget F hI 5 (by decide) km_X6_30 ⟨Nat.le_of_ble_eq_true rfl, Nat.le_of_ble_eq_true rfl⟩ hl.1 (Nat.le_of_ble_eq_true rfl) ⟨Nat.zero_le _, Nat.zero_le _⟩ dX6_offer_5 (fun H locs hI => ?_)
  refine lv_istore (lv' := [(4, .int (gget σ 5 x1)), (0, .ref (a 3)), (1, .int x1), (2, .int x2), (3, .int x3)]) hx hb dX6_offer_8 hl (by decide) rfl (fun ls hl => ?_)
  refine lv_iload hx hb dX6_offer_10 (lv_at hl 0 rfl) ?_
  refine lv_iconst (v := -1) hx hb dX6_offer_12 (by decide) ?_
  obtain ⟨j38, hj38, h⟩ := gJoin1_in h
  have J38 : ∀ (s_38 : gSt) (H : Heap) (locs : List Loc) (ls : Array Slot), j38 s_38 = out → g_S 65 D a (gE a cI s_38) s.heap H locs → lv_has ls 5 [(0, .ref (a 3)), (1, .int x1), (2, .int x2), (3, .int x3), (4, .int (gget σ 5 x1))] → W p l e rmX6_offer s m args below meth c H locs 0 0 Q (F0 m 38 ls []) := by
    intro s_38 H locs ls h hI hl
    rw [hj38] at h
    refine lv_iload hx hb dX6_offer_38 (lv_at hl 4 rfl) ?_
    refine lv_iconst (v := -1) hx hb dX6_offer_40 (by decide) ?_
    obtain ⟨j68, hj68, h⟩ := gJoin0_in h
    have J68 : ∀ (H : Heap) (locs : List Loc) (ls : Array Slot), j68  = out → g_S 65 D a (gE a cI s_38) s.heap H locs → lv_has ls 5 [(0, .ref (a 3)), (1, .int x1), (2, .int x2), (3, .int x3)] → W p l e rmX6_offer s m args below meth c H locs 0 0 Q (F0 m 68 ls []) := by
      intro  H locs ls h hI hl
      rw [hj68] at h
      refine lv_aload_n hx hb dX6_offer_68 rfl (lv_at hl 0 rfl) ?_
      refine g_get F hI (by decide) gE_3 rfl ku_X6 1 (by decide) kf_X6_14 rfl dX6_offer_69 ?_
      refine lv_iload_n hx hb dX6_offer_72 rfl (lv_at hl 1 rfl) ?_
      refine lv_iload_n hx hb dX6_offer_73 rfl (lv_at hl 2 rfl) ?_
      refine g_rput F hI 5 (by decide) km_X6_37 ⟨Nat.le_of_ble_eq_true rfl, Nat.le_of_ble_eq_true rfl⟩ hl.1 (Nat.le_of_ble_eq_true rfl) ⟨Nat.zero_le _, Nat.zero_le _⟩ dX6_offer_74 (fun H locs hI => ?_)
      refine lv_aload_n hx hb dX6_offer_77 rfl (lv_at hl 0 rfl) ?_
      refine g_get F hI (by decide) gE_3 rfl ku_X6 2 (by decide) kf_X6_20 rfl dX6_offer_78 ?_
      refine lv_iload_n hx hb dX6_offer_81 rfl (lv_at hl 1 rfl) ?_
      refine lv_iload_n hx hb dX6_offer_82 rfl (lv_at hl 3 rfl) ?_
      refine g_rput F hI 6 (by decide) km_X6_37 ⟨Nat.le_of_ble_eq_true rfl, Nat.le_of_ble_eq_true rfl⟩ hl.1 (Nat.le_of_ble_eq_true rfl) ⟨Nat.zero_le _, Nat.zero_le _⟩ dX6_offer_83 (fun H locs hI => ?_)
      subst h
      exact hq _ _ _ _ hI dX6_offer_86
    refine lv_icmp_eq (tgt := 68) hx hb dX6_offer_41 (by decide) (fun c_41 => ?_) (fun c_41 => ?_)
    · have h := (if_pos c_41).symm.trans h
      exact J68 _ _ _ h hI (lv_sub hl [0, 1, 2, 3] rfl)
    · have h := (if_neg c_41).symm.trans h
      refine lv_iload_n hx hb dX6_offer_44 rfl (lv_at hl 2 rfl) ?_
      refine lv_iload hx hb dX6_offer_45 (lv_at hl 4 rfl) ?_
      refine lv_icmp_lt (tgt := 68) hx hb dX6_offer_47 (by decide) (fun c_47 => ?_) (fun c_47 => ?_)
      · have h := (if_pos c_47).symm.trans h
        exact J68 _ _ _ h hI (lv_sub hl [0, 1, 2, 3] rfl)
      · have h := (if_neg c_47).symm.trans h
        refine lv_iload_n hx hb dX6_offer_50 rfl (lv_at hl 2 rfl) ?_
        refine lv_iload hx hb dX6_offer_51 (lv_at hl 4 rfl) ?_
        refine lv_icmp_ne (tgt := 86) hx hb dX6_offer_53 (by decide) (fun c_53 => ?_) (fun c_53 => ?_)
        · have h := (if_neg c_53).symm.trans h
          subst h
          exact hq _ _ _ _ hI dX6_offer_86
        · have h := (if_pos c_53).symm.trans h
          refine lv_iload_n hx hb dX6_offer_56 rfl (lv_at hl 3 rfl) ?_
          refine lv_aload_n hx hb dX6_offer_57 rfl (lv_at hl 0 rfl) ?_
          refine g_get F hI (by decide) gE_3 rfl ku_X6 2 (by decide) kf_X6_20 rfl dX6_offer_58 ?_
          refine lv_iload_n hx hb dX6_offer_61 rfl (lv_at hl 1 rfl) ?_
          refine g_rget F hI 6 (by decide) km_X6_30 ⟨Nat.le_of_ble_eq_true rfl, Nat.le_of_ble_eq_true rfl⟩ hl.1 (Nat.le_of_ble_eq_true rfl) ⟨Nat.zero_le _, Nat.zero_le _⟩ dX6_offer_62 (fun H locs hI => ?_)
          refine lv_icmp_ge (tgt := 86) hx hb dX6_offer_65 (by decide) (fun c_65 => ?_) (fun c_65 => ?_)
          · have h := (if_pos c_65).symm.trans h
            subst h
            exact hq _ _ _ _ hI dX6_offer_86
          · have h := (if_neg c_65).symm.trans h
            exact J68 _ _ _ h hI (lv_sub hl [0, 1, 2, 3] rfl)
  refine lv_icmp_ne (tgt := 38) hx hb dX6_offer_13 (by decide) (fun c_13 => ?_) (fun c_13 => ?_)
  · have h := (if_neg c_13).symm.trans h
    exact J38 _ _ _ _ h hI (lv_sub hl [1, 2, 3, 4, 0] rfl)
  · have h := (if_pos c_13).symm.trans h
    refine lv_aload_n hx hb dX6_offer_16 rfl (lv_at hl 1 rfl) ?_
    refine g_get F hI (by decide) gE_3 rfl ku_X6 3 (by decide) kf_X6_23 rfl dX6_offer_17 ?_
    refine lv_aload_n hx hb dX6_offer_20 rfl (lv_at hl 1 rfl) ?_
    refine g_get F hI (by decide) gE_3 rfl ku_X6 4 (by decide) kf_X6_41 rfl dX6_offer_21 ?_
    refine lv_iload_n hx hb dX6_offer_24 rfl (lv_at hl 2 rfl) ?_
    refine g_rput F hI 7 (by decide) km_X6_37 ⟨Nat.le_of_ble_eq_true rfl, Nat.le_of_ble_eq_true rfl⟩ hl.1 (Nat.le_of_ble_eq_true rfl) ⟨Nat.zero_le _, Nat.zero_le _⟩ dX6_offer_25 (fun H locs hI => ?_)
    refine lv_aload_n hx hb dX6_offer_28 rfl (lv_at hl 1 rfl) ?_
    refine lv_dup hx hb dX6_offer_29 rfl ?_
    refine g_get F hI (by decide) gE_3 rfl ku_X6 4 (by decide) kf_X6_41 rfl dX6_offer_30 ?_
    refine lv_iconst (v := 1) hx hb dX6_offer_33 (by decide) ?_
    refine lv_iadd hx hb dX6_offer_34 ?_
    refine g_put (E' := gE a cI (g_sf (gput σ 7 (σ.2 3) x1) 3 (((gput σ 7 (σ.2 3) x1).2 3) + 1))) F hI (by decide) gE_3 rfl ku_X6 tyX6_ok nmX6 4 (by decide) kf_X6_41 rfl rfl rfl rfl (Nat.le_of_ble_eq_true rfl) rfl gE_sf_3 dX6_offer_35 (fun H locs hI => ?_)
    exact J38 _ _ _ _ h hI (lv_sub hl [1, 2, 3, 4, 0] rfl)
/-- Spurline$Routes.goOn(IZ)V -/
def f_X6_goOn (N : Nat) (σ : gSt) (x1 x2 : Int32) : Option gSt :=
  gLoop2 (fun self2 (v3_2 : Int32) (s_2 : gSt) =>
    if 4 ≤ v3_2 then
      some s_2
    else
      gJoin1 (fun (s_92 : gSt) =>
          self2 (v3_2 + 1) s_92) (fun j92 =>
        if f_X8_beyond s_2 x1 v3_2 = (-1) then
          j92 s_2
        else
          gJoin0 (
              j92 (f_X6_offer s_2 (f_X8_beyond s_2 x1 v3_2) (((gget s_2 5 x1) + (f_X8_paceCost s_2 (f_X8_beyond s_2 x1 v3_2))) + (4 * (f_X8_climbBetween s_2 x1 (f_X8_beyond s_2 x1 v3_2)))) ((gget s_2 6 x1) + (f_X8_climbBetween s_2 x1 (f_X8_beyond s_2 x1 v3_2))))) (fun j40 =>
            if x2 = 0 then
              if f_X8_isForbidden s_2 (f_X8_beyond s_2 x1 v3_2) = 0 then
                j40
              else
                j92 s_2
            else
              j40))) N 0 σ
abbrev rmX6_goOn : Room := { frames := 2, cells := 0, slots := 0, locals := 46 }
theorem kb_X6_goOn : g_CB yX6_goOn cX6_goOn 6 none 2 := ⟨kc_X6_goOn, kn_X6, by decide +kernel⟩
set_option maxRecDepth 100000 in
set_option maxHeartbeats 4000000 in
theorem c_X6_goOn (l : Launch) (D : va_G) (a : Nat → Nat) (cI : ClassId) (hj : g_Inj 65 a) (N : Nat) (σ : gSt) (x1 x2 : Int32) (out : gSt) (hh : f_X6_goOn N σ x1 x2 = some out) : Met l yX6_goOn (Cond.code yX6_goOn cX6_goOn 6 none :: gW) rmX6_goOn (g_Pc 65 D a (gE a cI σ) [(cI, .int)] [.ref (a 3), .int x1, .int x2]) (g_Qv 65 D a (gE a cI out)) 0 0 (g_Own 65 a) := by
  refine g_metv (by decide) hj (Nat.le_of_ble_eq_true rfl) ?_
  intro p e s m args below meth c Q ls F hl hI hq
  have hx := F.1.1
  have hb := F.1.2.1
  have hl : lv_has ls 6 [(0, .ref (a 3)), (1, .int x1), (2, .int x2)] := hl
  have h := hh
  unfold f_X6_goOn at h
  refine lv_iconst (v := 0) hx hb dX6_goOn_0 (by decide) ?_
  refine lv_istore_n (lv' := [(3, .int 0), (0, .ref (a 3)), (1, .int x1), (2, .int x2)]) hx hb dX6_goOn_1 rfl hl (by decide) rfl (fun ls hl => ?_)
  obtain ⟨lp2, hz2, hs2, h⟩ := gLoop2_in h
  have L2 : ∀ (n : Nat) (v3_2 : Int32) (s_2 : gSt) (H : Heap) (locs : List Loc) (ls : Array Slot), lp2 n v3_2 s_2 = some out → g_S 65 D a (gE a cI s_2) s.heap H locs → lv_has ls 6 [(0, .ref (a 3)), (1, .int x1), (2, .int x2), (3, .int v3_2)] → W p l e rmX6_goOn s m args below meth c H locs 0 0 Q (F0 m 2 ls []) := by
    intro n
    induction n with
    | zero => intro v3_2 s_2 H locs ls h; rw [hz2] at h; cases h
    | succ n ih2 =>
      intro v3_2 s_2 H locs ls h hI hl
      rw [hs2] at h
      refine lv_iload_n hx hb dX6_goOn_2 rfl (lv_at hl 3 rfl) ?_
      refine lv_iconst (v := 4) hx hb dX6_goOn_3 (by decide) ?_
      refine lv_icmp_ge (tgt := 98) hx hb dX6_goOn_4 (by decide) (fun c_4 => ?_) (fun c_4 => ?_)
      · have h := (if_pos c_4).symm.trans h
        have h := Option.some.inj h
        subst h
        exact hq _ _ _ _ hI dX6_goOn_98
      · have h := (if_neg c_4).symm.trans h
        refine lv_aload_n hx hb dX6_goOn_7 rfl (lv_at hl 0 rfl) ?_
        refine g_get F hI (by decide) gE_3 rfl ku_X6 0 (by decide) kf_X6_26 rfl dX6_goOn_8 ?_
        refine lv_iload_n hx hb dX6_goOn_11 rfl (lv_at hl 1 rfl) ?_
        refine lv_iload_n hx hb dX6_goOn_12 rfl (lv_at hl 3 rfl) ?_
        refine g_callVi (E' := gE a cI s_2) (k0 := 1) (As := [.int x1, .int v3_2]) (rest := []) F hI (c_X8_beyond l D a cI F.2.2 s_2 x1 v3_2) kb_X8_beyond ki_X8_beyond ks_X8_beyond km_X6_60 ⟨Nat.le_of_ble_eq_true rfl, Nat.le_of_ble_eq_true rfl, rfl, rfl⟩ (by decide) gE_1 rfl hl.1 rfl (Nat.le_of_ble_eq_true rfl) ⟨Nat.zero_le _, Nat.zero_le _⟩ dX6_goOn_13 (fun H locs hI => ?_)
        refine lv_istore (lv' := [(4, .int (f_X8_beyond s_2 x1 v3_2)), (0, .ref (a 3)), (1, .int x1), (2, .int x2), (3, .int v3_2)]) hx hb dX6_goOn_16 hl (by decide) rfl (fun ls hl => ?_)
        refine lv_iload hx hb dX6_goOn_18 (lv_at hl 0 rfl) ?_
        refine lv_iconst (v := -1) hx hb dX6_goOn_20 (by decide) ?_
        obtain ⟨j92, hj92, h⟩ := gJoin1_in h
        have J92 : ∀ (s_92 : gSt) (H : Heap) (locs : List Loc) (ls : Array Slot), j92 s_92 = some out → g_S 65 D a (gE a cI s_92) s.heap H locs → lv_has ls 6 [(0, .ref (a 3)), (1, .int x1), (2, .int x2), (3, .int v3_2)] → W p l e rmX6_goOn s m args below meth c H locs 0 0 Q (F0 m 92 ls []) := by
          intro s_92 H locs ls h hI hl
          rw [hj92] at h
          refine lv_iinc (v := v3_2 + 1) (lv' := [(3, .int (v3_2 + 1)), (0, .ref (a 3)), (1, .int x1), (2, .int x2)]) hx hb dX6_goOn_92 hl (k := 3) rfl rfl (by decide) rfl (fun ls hl => ?_)
          refine lv_goto (tgt := 2) hx hb dX6_goOn_95 (by decide) ?_
          exact ih2 _ _ _ _ _ h hI (lv_sub hl [1, 2, 3, 0] rfl)
        refine lv_icmp_eq (tgt := 92) hx hb dX6_goOn_21 (by decide) (fun c_21 => ?_) (fun c_21 => ?_)
        · have h := (if_pos c_21).symm.trans h
          exact J92 _ _ _ _ h hI (lv_sub hl [1, 2, 3, 4] rfl)
        · have h := (if_neg c_21).symm.trans h
          refine lv_iload_n hx hb dX6_goOn_24 rfl (lv_at hl 3 rfl) ?_
          obtain ⟨j40, hj40, h⟩ := gJoin0_in h
          have J40 : ∀ (H : Heap) (locs : List Loc) (ls : Array Slot), j40  = some out → g_S 65 D a (gE a cI s_2) s.heap H locs → lv_has ls 6 [(0, .ref (a 3)), (1, .int x1), (2, .int x2), (3, .int v3_2), (4, .int (f_X8_beyond s_2 x1 v3_2))] → W p l e rmX6_goOn s m args below meth c H locs 0 0 Q (F0 m 40 ls []) := by
            intro  H locs ls h hI hl
            rw [hj40] at h
            refine lv_aload_n hx hb dX6_goOn_40 rfl (lv_at hl 0 rfl) ?_
            refine g_get F hI (by decide) gE_3 rfl ku_X6 0 (by decide) kf_X6_26 rfl dX6_goOn_41 ?_
            refine lv_iload_n hx hb dX6_goOn_44 rfl (lv_at hl 1 rfl) ?_
            refine lv_iload hx hb dX6_goOn_45 (lv_at hl 4 rfl) ?_
            refine g_callVi (E' := gE a cI s_2) (k0 := 1) (As := [.int x1, .int (f_X8_beyond s_2 x1 v3_2)]) (rest := []) F hI (c_X8_climbBetween l D a cI F.2.2 s_2 x1 (f_X8_beyond s_2 x1 v3_2)) kb_X8_climbBetween ki_X8_climbBetween ks_X8_climbBetween km_X6_69 ⟨Nat.le_of_ble_eq_true rfl, Nat.le_of_ble_eq_true rfl, rfl, rfl⟩ (by decide) gE_1 rfl hl.1 rfl (Nat.le_of_ble_eq_true rfl) ⟨Nat.zero_le _, Nat.zero_le _⟩ dX6_goOn_47 (fun H locs hI => ?_)
            refine lv_istore (lv' := [(5, .int (f_X8_climbBetween s_2 x1 (f_X8_beyond s_2 x1 v3_2))), (0, .ref (a 3)), (1, .int x1), (2, .int x2), (3, .int v3_2), (4, .int (f_X8_beyond s_2 x1 v3_2))]) hx hb dX6_goOn_50 hl (by decide) rfl (fun ls hl => ?_)
            refine lv_aload_n hx hb dX6_goOn_52 rfl (lv_at hl 1 rfl) ?_
            refine lv_iload hx hb dX6_goOn_53 (lv_at hl 5 rfl) ?_
            refine lv_aload_n hx hb dX6_goOn_55 rfl (lv_at hl 1 rfl) ?_
            refine g_get F hI (by decide) gE_3 rfl ku_X6 1 (by decide) kf_X6_14 rfl dX6_goOn_56 ?_
            refine lv_iload_n hx hb dX6_goOn_59 rfl (lv_at hl 2 rfl) ?_
            refine g_rget F hI 5 (by decide) km_X6_30 ⟨Nat.le_of_ble_eq_true rfl, Nat.le_of_ble_eq_true rfl⟩ hl.1 (Nat.le_of_ble_eq_true rfl) ⟨Nat.zero_le _, Nat.zero_le _⟩ dX6_goOn_60 (fun H locs hI => ?_)
            refine lv_aload_n hx hb dX6_goOn_63 rfl (lv_at hl 1 rfl) ?_
            refine g_get F hI (by decide) gE_3 rfl ku_X6 0 (by decide) kf_X6_26 rfl dX6_goOn_64 ?_
            refine lv_iload hx hb dX6_goOn_67 (lv_at hl 5 rfl) ?_
            refine g_callVi (E' := gE a cI s_2) (k0 := 1) (As := [.int (f_X8_beyond s_2 x1 v3_2)]) (rest := [.int (gget s_2 5 x1), .int (f_X8_beyond s_2 x1 v3_2), .ref (a 3)]) F hI (c_X8_paceCost l D a cI F.2.2 s_2 (f_X8_beyond s_2 x1 v3_2)) kb_X8_paceCost ki_X8_paceCost ks_X8_paceCost km_X6_72 ⟨Nat.le_of_ble_eq_true rfl, Nat.le_of_ble_eq_true rfl, rfl, rfl⟩ (by decide) gE_1 rfl hl.1 rfl (Nat.le_of_ble_eq_true rfl) ⟨Nat.zero_le _, Nat.zero_le _⟩ dX6_goOn_69 (fun H locs hI => ?_)
            refine lv_iadd hx hb dX6_goOn_72 ?_
            refine lv_iconst (v := 4) hx hb dX6_goOn_73 (by decide) ?_
            refine lv_iload hx hb dX6_goOn_74 (lv_at hl 0 rfl) ?_
            refine lv_imul hx hb dX6_goOn_76 ?_
            refine lv_iadd hx hb dX6_goOn_77 ?_
            refine lv_aload_n hx hb dX6_goOn_78 rfl (lv_at hl 1 rfl) ?_
            refine g_get F hI (by decide) gE_3 rfl ku_X6 2 (by decide) kf_X6_20 rfl dX6_goOn_79 ?_
            refine lv_iload_n hx hb dX6_goOn_82 rfl (lv_at hl 2 rfl) ?_
            refine g_rget F hI 6 (by decide) km_X6_30 ⟨Nat.le_of_ble_eq_true rfl, Nat.le_of_ble_eq_true rfl⟩ hl.1 (Nat.le_of_ble_eq_true rfl) ⟨Nat.zero_le _, Nat.zero_le _⟩ dX6_goOn_83 (fun H locs hI => ?_)
            refine lv_iload hx hb dX6_goOn_86 (lv_at hl 0 rfl) ?_
            refine lv_iadd hx hb dX6_goOn_88 ?_
            refine g_callVv (E' := gE a cI (f_X6_offer s_2 (f_X8_beyond s_2 x1 v3_2) (((gget s_2 5 x1) + (f_X8_paceCost s_2 (f_X8_beyond s_2 x1 v3_2))) + (4 * (f_X8_climbBetween s_2 x1 (f_X8_beyond s_2 x1 v3_2)))) ((gget s_2 6 x1) + (f_X8_climbBetween s_2 x1 (f_X8_beyond s_2 x1 v3_2))))) (k0 := 3) (As := [.int (f_X8_beyond s_2 x1 v3_2), .int (((gget s_2 5 x1) + (f_X8_paceCost s_2 (f_X8_beyond s_2 x1 v3_2))) + (4 * (f_X8_climbBetween s_2 x1 (f_X8_beyond s_2 x1 v3_2)))), .int ((gget s_2 6 x1) + (f_X8_climbBetween s_2 x1 (f_X8_beyond s_2 x1 v3_2)))]) (rest := []) F hI (c_X6_offer l D a cI F.2.2 s_2 (f_X8_beyond s_2 x1 v3_2) (((gget s_2 5 x1) + (f_X8_paceCost s_2 (f_X8_beyond s_2 x1 v3_2))) + (4 * (f_X8_climbBetween s_2 x1 (f_X8_beyond s_2 x1 v3_2)))) ((gget s_2 6 x1) + (f_X8_climbBetween s_2 x1 (f_X8_beyond s_2 x1 v3_2)))) kb_X6_offer ki_X6_offer ks_X6_offer km_X6_75 ⟨Nat.le_of_ble_eq_true rfl, Nat.le_of_ble_eq_true rfl, rfl, rfl⟩ (by decide) gE_3 rfl hl.1 rfl (Nat.le_of_ble_eq_true rfl) ⟨Nat.zero_le _, Nat.zero_le _⟩ dX6_goOn_89 (fun H locs hI => ?_)
            exact J92 _ _ _ _ h hI (lv_sub hl [1, 2, 3, 4] rfl)
          refine lv_if_ne (tgt := 40) hx hb dX6_goOn_25 (by decide) (fun c_25 => ?_) (fun c_25 => ?_)
          · have h := (if_neg c_25).symm.trans h
            exact J40 _ _ _ h hI (lv_sub hl [1, 2, 3, 4, 0] rfl)
          · have h := (if_pos c_25).symm.trans h
            refine lv_aload_n hx hb dX6_goOn_28 rfl (lv_at hl 1 rfl) ?_
            refine g_get F hI (by decide) gE_3 rfl ku_X6 0 (by decide) kf_X6_26 rfl dX6_goOn_29 ?_
            refine lv_iload hx hb dX6_goOn_32 (lv_at hl 0 rfl) ?_
            refine g_callVi (E' := gE a cI s_2) (k0 := 1) (As := [.int (f_X8_beyond s_2 x1 v3_2)]) (rest := []) F hI (c_X8_isForbidden l D a cI F.2.2 s_2 (f_X8_beyond s_2 x1 v3_2)) kb_X8_isForbidden ki_X8_isForbidden ks_X8_isForbidden km_X6_66 ⟨Nat.le_of_ble_eq_true rfl, Nat.le_of_ble_eq_true rfl, rfl, rfl⟩ (by decide) gE_1 rfl hl.1 rfl (Nat.le_of_ble_eq_true rfl) ⟨Nat.zero_le _, Nat.zero_le _⟩ dX6_goOn_34 (fun H locs hI => ?_)
            refine lv_if_ne (tgt := 92) hx hb dX6_goOn_37 (by decide) (fun c_37 => ?_) (fun c_37 => ?_)
            · have h := (if_neg c_37).symm.trans h
              exact J92 _ _ _ _ h hI (lv_sub hl [1, 2, 3, 4] rfl)
            · have h := (if_pos c_37).symm.trans h
              exact J40 _ _ _ h hI (lv_sub hl [1, 2, 3, 4, 0] rfl)
  exact L2 _ _ _ _ _ _ h hI (lv_sub hl [1, 2, 3, 0] rfl)
/-- Spurline$Routes.search(IZ)V -/
def f_X6_search (N : Nat) (σ : gSt) (x1 x2 : Int32) : Option gSt :=
  gLoop2 (fun self21 (v3_21 : Int32) (s_21 : gSt) =>
    if 144 ≤ v3_21 then
      some s_21
    else
      if s_21.2 3 ≤ 0 then
        some s_21
      else
        (f_X6_takeNearest N s_21).bind (fun (q_37 : Int32 × gSt) =>
        (f_X6_goOn N q_37.2 q_37.1 x2).bind (fun (s_41 : gSt) =>
        self21 (v3_21 + 1) s_41))) N 0 (g_sf (gput (f_X6_begin σ x1) 7 0 x1) 3 1)
abbrev rmX6_search : Room := { frames := 3, cells := 0, slots := 0, locals := 71 }
theorem kb_X6_search : g_CB yX6_search cX6_search 4 none 2 := ⟨kc_X6_search, kn_X6, by decide +kernel⟩
set_option maxRecDepth 100000 in
set_option maxHeartbeats 4000000 in
theorem c_X6_search (l : Launch) (D : va_G) (a : Nat → Nat) (cI : ClassId) (hj : g_Inj 65 a) (N : Nat) (σ : gSt) (x1 x2 : Int32) (out : gSt) (hh : f_X6_search N σ x1 x2 = some out) : Met l yX6_search (Cond.code yX6_search cX6_search 4 none :: gW) rmX6_search (g_Pc 65 D a (gE a cI σ) [(cI, .int)] [.ref (a 3), .int x1, .int x2]) (g_Qv 65 D a (gE a cI out)) 0 0 (g_Own 65 a) := by
  refine g_metv (by decide) hj (Nat.le_of_ble_eq_true rfl) ?_
  intro p e s m args below meth c Q ls F hl hI hq
  have hx := F.1.1
  have hb := F.1.2.1
  have hl : lv_has ls 4 [(0, .ref (a 3)), (1, .int x1), (2, .int x2)] := hl
  have h := hh
  unfold f_X6_search at h
  refine lv_aload_n hx hb dX6_search_0 rfl (lv_at hl 0 rfl) ?_
  refine lv_iload_n hx hb dX6_search_1 rfl (lv_at hl 1 rfl) ?_
  refine g_callVv (E' := gE a cI (f_X6_begin σ x1)) (k0 := 3) (As := [.int x1]) (rest := []) F hI (c_X6_begin l D a cI F.2.2 σ x1) kb_X6_begin ki_X6_begin ks_X6_begin km_X6_34 ⟨Nat.le_of_ble_eq_true rfl, Nat.le_of_ble_eq_true rfl, rfl, rfl⟩ (by decide) gE_3 rfl hl.1 rfl (Nat.le_of_ble_eq_true rfl) ⟨Nat.zero_le _, Nat.zero_le _⟩ dX6_search_2 (fun H locs hI => ?_)
  refine lv_aload_n hx hb dX6_search_5 rfl (lv_at hl 0 rfl) ?_
  refine g_get F hI (by decide) gE_3 rfl ku_X6 3 (by decide) kf_X6_23 rfl dX6_search_6 ?_
  refine lv_iconst (v := 0) hx hb dX6_search_9 (by decide) ?_
  refine lv_iload_n hx hb dX6_search_10 rfl (lv_at hl 1 rfl) ?_
  refine g_rput F hI 7 (by decide) km_X6_37 ⟨Nat.le_of_ble_eq_true rfl, Nat.le_of_ble_eq_true rfl⟩ hl.1 (Nat.le_of_ble_eq_true rfl) ⟨Nat.zero_le _, Nat.zero_le _⟩ dX6_search_11 (fun H locs hI => ?_)
  refine lv_aload_n hx hb dX6_search_14 rfl (lv_at hl 0 rfl) ?_
  refine lv_iconst (v := 1) hx hb dX6_search_15 (by decide) ?_
  refine g_put (E' := gE a cI (g_sf (gput (f_X6_begin σ x1) 7 0 x1) 3 1)) F hI (by decide) gE_3 rfl ku_X6 tyX6_ok nmX6 4 (by decide) kf_X6_41 rfl rfl rfl rfl (Nat.le_of_ble_eq_true rfl) rfl gE_sf_3 dX6_search_16 (fun H locs hI => ?_)
  refine lv_iconst (v := 0) hx hb dX6_search_19 (by decide) ?_
  refine lv_istore_n (lv' := [(3, .int 0), (0, .ref (a 3)), (1, .int x1), (2, .int x2)]) hx hb dX6_search_20 rfl hl (by decide) rfl (fun ls hl => ?_)
  obtain ⟨lp21, hz21, hs21, h⟩ := gLoop2_in h
  have L21 : ∀ (n : Nat) (v3_21 : Int32) (s_21 : gSt) (H : Heap) (locs : List Loc) (ls : Array Slot), lp21 n v3_21 s_21 = some out → g_S 65 D a (gE a cI s_21) s.heap H locs → lv_has ls 4 [(0, .ref (a 3)), (2, .int x2), (3, .int v3_21)] → W p l e rmX6_search s m args below meth c H locs 0 0 Q (F0 m 21 ls []) := by
    intro n
    induction n with
    | zero => intro v3_21 s_21 H locs ls h; rw [hz21] at h; cases h
    | succ n ih21 =>
      intro v3_21 s_21 H locs ls h hI hl
      rw [hs21] at h
      refine lv_iload_n hx hb dX6_search_21 rfl (lv_at hl 2 rfl) ?_
      refine lv_sipush (v := 144) hx hb dX6_search_22 (by decide) ?_
      refine lv_icmp_ge (tgt := 50) hx hb dX6_search_25 (by decide) (fun c_25 => ?_) (fun c_25 => ?_)
      · have h := (if_pos c_25).symm.trans h
        have h := Option.some.inj h
        subst h
        exact hq _ _ _ _ hI dX6_search_50
      · have h := (if_neg c_25).symm.trans h
        refine lv_aload_n hx hb dX6_search_28 rfl (lv_at hl 0 rfl) ?_
        refine g_get F hI (by decide) gE_3 rfl ku_X6 4 (by decide) kf_X6_41 rfl dX6_search_29 ?_
        refine lv_if_le (tgt := 50) hx hb dX6_search_32 (by decide) (fun c_32 => ?_) (fun c_32 => ?_)
        · have h := (if_pos c_32).symm.trans h
          have h := Option.some.inj h
          subst h
          exact hq _ _ _ _ hI dX6_search_50
        · have h := (if_neg c_32).symm.trans h
          refine lv_aload_n hx hb dX6_search_35 rfl (lv_at hl 0 rfl) ?_
          refine lv_aload_n hx hb dX6_search_36 rfl (lv_at hl 0 rfl) ?_
          obtain ⟨q_37, e_37, h⟩ := gBind_in h
          refine g_callVi (E' := gE a cI q_37.2) (k0 := 3) (As := []) (rest := [.ref (a 3)]) F hI (c_X6_takeNearest l D a cI F.2.2 N s_21 q_37 e_37) kb_X6_takeNearest ki_X6_takeNearest ks_X6_takeNearest km_X6_45 ⟨Nat.le_of_ble_eq_true rfl, Nat.le_of_ble_eq_true rfl, rfl, rfl⟩ (by decide) gE_3 rfl hl.1 rfl (Nat.le_of_ble_eq_true rfl) ⟨Nat.zero_le _, Nat.zero_le _⟩ dX6_search_37 (fun H locs hI => ?_)
          refine lv_iload_n hx hb dX6_search_40 rfl (lv_at hl 1 rfl) ?_
          obtain ⟨s_41, e_41, h⟩ := gBind_in h
          refine g_callVv (E' := gE a cI s_41) (k0 := 3) (As := [.int q_37.1, .int x2]) (rest := []) F hI (c_X6_goOn l D a cI F.2.2 N q_37.2 q_37.1 x2 s_41 e_41) kb_X6_goOn ki_X6_goOn ks_X6_goOn km_X6_49 ⟨Nat.le_of_ble_eq_true rfl, Nat.le_of_ble_eq_true rfl, rfl, rfl⟩ (by decide) gE_3 rfl hl.1 rfl (Nat.le_of_ble_eq_true rfl) ⟨Nat.zero_le _, Nat.zero_le _⟩ dX6_search_41 (fun H locs hI => ?_)
          refine lv_iinc (v := v3_21 + 1) (lv' := [(3, .int (v3_21 + 1)), (0, .ref (a 3)), (2, .int x2)]) hx hb dX6_search_44 hl (k := 2) rfl rfl (by decide) rfl (fun ls hl => ?_)
          refine lv_goto (tgt := 21) hx hb dX6_search_47 (by decide) ?_
          exact ih21 _ _ _ _ _ h hI (lv_sub hl [1, 2, 0] rfl)
  exact L21 _ _ _ _ _ _ h hI (lv_sub hl [1, 3, 0] rfl)
/-- Spurline$Routes.cheapen(I)Z -/
def f_X6_cheapen (N : Nat) (σ : gSt) (x1 : Int32) : Option (Int32 × gSt) :=
  gLoop3 (fun self4 (v2_4 : Int32) (v3_4 : Int32) (s_4 : gSt) =>
    if 4 ≤ v3_4 then
      some (v2_4 &&& 1, s_4)
    else
      if gget s_4 5 x1 = (-1) then
        some (v2_4 &&& 1, s_4)
      else
        gJoin2 (fun (v2_123 : Int32) (s_123 : gSt) =>
            self4 v2_123 (v3_4 + 1) s_123) (fun j123 =>
          if f_X8_beyond s_4 x1 v3_4 = (-1) then
            j123 v2_4 s_4
          else
            if f_X8_isForbidden s_4 (f_X8_beyond s_4 x1 v3_4) = 0 then
              gJoin0 (
                  j123 1 (gput s_4 5 (f_X8_beyond s_4 x1 v3_4) (((gget s_4 5 x1) + (f_X8_paceCost s_4 (f_X8_beyond s_4 x1 v3_4))) + (4 * (f_X8_climbBetween s_4 x1 (f_X8_beyond s_4 x1 v3_4)))))) (fun j110 =>
                if gget s_4 5 (f_X8_beyond s_4 x1 v3_4) = (-1) then
                  j110
                else
                  if gget s_4 5 (f_X8_beyond s_4 x1 v3_4) ≤ ((gget s_4 5 x1) + (f_X8_paceCost s_4 (f_X8_beyond s_4 x1 v3_4))) + (4 * (f_X8_climbBetween s_4 x1 (f_X8_beyond s_4 x1 v3_4))) then
                    j123 v2_4 s_4
                  else
                    j110)
            else
              j123 v2_4 s_4)) N 0 0 σ
abbrev rmX6_cheapen : Room := { frames := 2, cells := 0, slots := 0, locals := 46 }
theorem kb_X6_cheapen : g_CB yX6_cheapen cX6_cheapen 6 (some .boolean) 1 := ⟨kc_X6_cheapen, kn_X6, by decide +kernel⟩
set_option maxRecDepth 100000 in
set_option maxHeartbeats 4000000 in
theorem c_X6_cheapen (l : Launch) (D : va_G) (a : Nat → Nat) (cI : ClassId) (hj : g_Inj 65 a) (N : Nat) (σ : gSt) (x1 : Int32) (out : Int32 × gSt) (hh : f_X6_cheapen N σ x1 = some out) : Met l yX6_cheapen (Cond.code yX6_cheapen cX6_cheapen 6 (some .boolean) :: gW) rmX6_cheapen (g_Pc 65 D a (gE a cI σ) [(cI, .int)] [.ref (a 3), .int x1]) (g_Qi 65 D a (gE a cI out.2) out.1) 0 0 (g_Own 65 a) := by
  refine g_metz (by decide) hj (Nat.le_of_ble_eq_true rfl) ?_
  intro p e s m args below meth c Q ls F hl hI hq
  have hx := F.1.1
  have hb := F.1.2.1
  have hl : lv_has ls 6 [(0, .ref (a 3)), (1, .int x1)] := hl
  have h := hh
  unfold f_X6_cheapen at h
  refine lv_iconst (v := 0) hx hb dX6_cheapen_0 (by decide) ?_
  refine lv_istore_n (lv' := [(2, .int 0), (0, .ref (a 3)), (1, .int x1)]) hx hb dX6_cheapen_1 rfl hl (by decide) rfl (fun ls hl => ?_)
  refine lv_iconst (v := 0) hx hb dX6_cheapen_2 (by decide) ?_
  refine lv_istore_n (lv' := [(3, .int 0), (2, .int 0), (0, .ref (a 3)), (1, .int x1)]) hx hb dX6_cheapen_3 rfl hl (by decide) rfl (fun ls hl => ?_)
  obtain ⟨lp4, hz4, hs4, h⟩ := gLoop3_in h
  have L4 : ∀ (n : Nat) (v2_4 : Int32) (v3_4 : Int32) (s_4 : gSt) (H : Heap) (locs : List Loc) (ls : Array Slot), lp4 n v2_4 v3_4 s_4 = some out → g_S 65 D a (gE a cI s_4) s.heap H locs → lv_has ls 6 [(0, .ref (a 3)), (1, .int x1), (2, .int v2_4), (3, .int v3_4)] → W p l e rmX6_cheapen s m args below meth c H locs 0 0 Q (F0 m 4 ls []) := by
    intro n
    induction n with
    | zero => intro v2_4 v3_4 s_4 H locs ls h; rw [hz4] at h; cases h
    | succ n ih4 =>
      intro v2_4 v3_4 s_4 H locs ls h hI hl
      rw [hs4] at h
      refine lv_iload_n hx hb dX6_cheapen_4 rfl (lv_at hl 3 rfl) ?_
      refine lv_iconst (v := 4) hx hb dX6_cheapen_5 (by decide) ?_
      refine lv_icmp_ge (tgt := 129) hx hb dX6_cheapen_6 (by decide) (fun c_6 => ?_) (fun c_6 => ?_)
      · have h := (if_pos c_6).symm.trans h
        refine lv_iload_n hx hb dX6_cheapen_129 rfl (lv_at hl 2 rfl) ?_
        have h := Option.some.inj h
        subst h
        exact hq _ _ _ _ _ rfl hI dX6_cheapen_130
      · have h := (if_neg c_6).symm.trans h
        refine lv_aload_n hx hb dX6_cheapen_9 rfl (lv_at hl 0 rfl) ?_
        refine g_get F hI (by decide) gE_3 rfl ku_X6 1 (by decide) kf_X6_14 rfl dX6_cheapen_10 ?_
        refine lv_iload_n hx hb dX6_cheapen_13 rfl (lv_at hl 1 rfl) ?_
        refine g_rget F hI 5 (by decide) km_X6_30 ⟨Nat.le_of_ble_eq_true rfl, Nat.le_of_ble_eq_true rfl⟩ hl.1 (Nat.le_of_ble_eq_true rfl) ⟨Nat.zero_le _, Nat.zero_le _⟩ dX6_cheapen_14 (fun H locs hI => ?_)
        refine lv_iconst (v := -1) hx hb dX6_cheapen_17 (by decide) ?_
        refine lv_icmp_eq (tgt := 129) hx hb dX6_cheapen_18 (by decide) (fun c_18 => ?_) (fun c_18 => ?_)
        · have h := (if_pos c_18).symm.trans h
          refine lv_iload_n hx hb dX6_cheapen_129 rfl (lv_at hl 2 rfl) ?_
          have h := Option.some.inj h
          subst h
          exact hq _ _ _ _ _ rfl hI dX6_cheapen_130
        · have h := (if_neg c_18).symm.trans h
          refine lv_aload_n hx hb dX6_cheapen_21 rfl (lv_at hl 0 rfl) ?_
          refine g_get F hI (by decide) gE_3 rfl ku_X6 0 (by decide) kf_X6_26 rfl dX6_cheapen_22 ?_
          refine lv_iload_n hx hb dX6_cheapen_25 rfl (lv_at hl 1 rfl) ?_
          refine lv_iload_n hx hb dX6_cheapen_26 rfl (lv_at hl 3 rfl) ?_
          refine g_callVi (E' := gE a cI s_4) (k0 := 1) (As := [.int x1, .int v3_4]) (rest := []) F hI (c_X8_beyond l D a cI F.2.2 s_4 x1 v3_4) kb_X8_beyond ki_X8_beyond ks_X8_beyond km_X6_60 ⟨Nat.le_of_ble_eq_true rfl, Nat.le_of_ble_eq_true rfl, rfl, rfl⟩ (by decide) gE_1 rfl hl.1 rfl (Nat.le_of_ble_eq_true rfl) ⟨Nat.zero_le _, Nat.zero_le _⟩ dX6_cheapen_27 (fun H locs hI => ?_)
          refine lv_istore (lv' := [(4, .int (f_X8_beyond s_4 x1 v3_4)), (0, .ref (a 3)), (1, .int x1), (2, .int v2_4), (3, .int v3_4)]) hx hb dX6_cheapen_30 hl (by decide) rfl (fun ls hl => ?_)
          refine lv_iload hx hb dX6_cheapen_32 (lv_at hl 0 rfl) ?_
          refine lv_iconst (v := -1) hx hb dX6_cheapen_34 (by decide) ?_
          obtain ⟨j123, hj123, h⟩ := gJoin2_in h
          have J123 : ∀ (v2_123 : Int32) (s_123 : gSt) (H : Heap) (locs : List Loc) (ls : Array Slot), j123 v2_123 s_123 = some out → g_S 65 D a (gE a cI s_123) s.heap H locs → lv_has ls 6 [(0, .ref (a 3)), (1, .int x1), (2, .int v2_123), (3, .int v3_4)] → W p l e rmX6_cheapen s m args below meth c H locs 0 0 Q (F0 m 123 ls []) := by
            intro v2_123 s_123 H locs ls h hI hl
            rw [hj123] at h
            refine lv_iinc (v := v3_4 + 1) (lv' := [(3, .int (v3_4 + 1)), (0, .ref (a 3)), (1, .int x1), (2, .int v2_123)]) hx hb dX6_cheapen_123 hl (k := 3) rfl rfl (by decide) rfl (fun ls hl => ?_)
            refine lv_goto (tgt := 4) hx hb dX6_cheapen_126 (by decide) ?_
            exact ih4 _ _ _ _ _ _ h hI (lv_sub hl [1, 2, 3, 0] rfl)
          refine lv_icmp_eq (tgt := 123) hx hb dX6_cheapen_35 (by decide) (fun c_35 => ?_) (fun c_35 => ?_)
          · have h := (if_pos c_35).symm.trans h
            exact J123 _ _ _ _ _ h hI (lv_sub hl [1, 2, 3, 4] rfl)
          · have h := (if_neg c_35).symm.trans h
            refine lv_aload_n hx hb dX6_cheapen_38 rfl (lv_at hl 1 rfl) ?_
            refine g_get F hI (by decide) gE_3 rfl ku_X6 0 (by decide) kf_X6_26 rfl dX6_cheapen_39 ?_
            refine lv_iload hx hb dX6_cheapen_42 (lv_at hl 0 rfl) ?_
            refine g_callVi (E' := gE a cI s_4) (k0 := 1) (As := [.int (f_X8_beyond s_4 x1 v3_4)]) (rest := []) F hI (c_X8_isForbidden l D a cI F.2.2 s_4 (f_X8_beyond s_4 x1 v3_4)) kb_X8_isForbidden ki_X8_isForbidden ks_X8_isForbidden km_X6_66 ⟨Nat.le_of_ble_eq_true rfl, Nat.le_of_ble_eq_true rfl, rfl, rfl⟩ (by decide) gE_1 rfl hl.1 rfl (Nat.le_of_ble_eq_true rfl) ⟨Nat.zero_le _, Nat.zero_le _⟩ dX6_cheapen_44 (fun H locs hI => ?_)
            refine lv_if_ne (tgt := 123) hx hb dX6_cheapen_47 (by decide) (fun c_47 => ?_) (fun c_47 => ?_)
            · have h := (if_neg c_47).symm.trans h
              exact J123 _ _ _ _ _ h hI (lv_sub hl [1, 2, 3, 4] rfl)
            · have h := (if_pos c_47).symm.trans h
              refine lv_aload_n hx hb dX6_cheapen_50 rfl (lv_at hl 1 rfl) ?_
              refine g_get F hI (by decide) gE_3 rfl ku_X6 1 (by decide) kf_X6_14 rfl dX6_cheapen_51 ?_
              refine lv_iload_n hx hb dX6_cheapen_54 rfl (lv_at hl 2 rfl) ?_
              refine g_rget F hI 5 (by decide) km_X6_30 ⟨Nat.le_of_ble_eq_true rfl, Nat.le_of_ble_eq_true rfl⟩ hl.1 (Nat.le_of_ble_eq_true rfl) ⟨Nat.zero_le _, Nat.zero_le _⟩ dX6_cheapen_55 (fun H locs hI => ?_)
              refine lv_aload_n hx hb dX6_cheapen_58 rfl (lv_at hl 1 rfl) ?_
              refine g_get F hI (by decide) gE_3 rfl ku_X6 0 (by decide) kf_X6_26 rfl dX6_cheapen_59 ?_
              refine lv_iload hx hb dX6_cheapen_62 (lv_at hl 0 rfl) ?_
              refine g_callVi (E' := gE a cI s_4) (k0 := 1) (As := [.int (f_X8_beyond s_4 x1 v3_4)]) (rest := [.int (gget s_4 5 x1)]) F hI (c_X8_paceCost l D a cI F.2.2 s_4 (f_X8_beyond s_4 x1 v3_4)) kb_X8_paceCost ki_X8_paceCost ks_X8_paceCost km_X6_72 ⟨Nat.le_of_ble_eq_true rfl, Nat.le_of_ble_eq_true rfl, rfl, rfl⟩ (by decide) gE_1 rfl hl.1 rfl (Nat.le_of_ble_eq_true rfl) ⟨Nat.zero_le _, Nat.zero_le _⟩ dX6_cheapen_64 (fun H locs hI => ?_)
              refine lv_iadd hx hb dX6_cheapen_67 ?_
              refine lv_iconst (v := 4) hx hb dX6_cheapen_68 (by decide) ?_
              refine lv_aload_n hx hb dX6_cheapen_69 rfl (lv_at hl 1 rfl) ?_
              refine g_get F hI (by decide) gE_3 rfl ku_X6 0 (by decide) kf_X6_26 rfl dX6_cheapen_70 ?_
              refine lv_iload_n hx hb dX6_cheapen_73 rfl (lv_at hl 2 rfl) ?_
              refine lv_iload hx hb dX6_cheapen_74 (lv_at hl 0 rfl) ?_
              refine g_callVi (E' := gE a cI s_4) (k0 := 1) (As := [.int x1, .int (f_X8_beyond s_4 x1 v3_4)]) (rest := [.int 4, .int ((gget s_4 5 x1) + (f_X8_paceCost s_4 (f_X8_beyond s_4 x1 v3_4)))]) F hI (c_X8_climbBetween l D a cI F.2.2 s_4 x1 (f_X8_beyond s_4 x1 v3_4)) kb_X8_climbBetween ki_X8_climbBetween ks_X8_climbBetween km_X6_69 ⟨Nat.le_of_ble_eq_true rfl, Nat.le_of_ble_eq_true rfl, rfl, rfl⟩ (by decide) gE_1 rfl hl.1 rfl (Nat.le_of_ble_eq_true rfl) ⟨Nat.zero_le _, Nat.zero_le _⟩ dX6_cheapen_76 (fun H locs hI => ?_)
              refine lv_imul hx hb dX6_cheapen_79 ?_
              refine lv_iadd hx hb dX6_cheapen_80 ?_
              refine lv_istore (lv' := [(5, .int (((gget s_4 5 x1) + (f_X8_paceCost s_4 (f_X8_beyond s_4 x1 v3_4))) + (4 * (f_X8_climbBetween s_4 x1 (f_X8_beyond s_4 x1 v3_4))))), (4, .int (f_X8_beyond s_4 x1 v3_4)), (0, .ref (a 3)), (1, .int x1), (2, .int v2_4), (3, .int v3_4)]) hx hb dX6_cheapen_81 hl (by decide) rfl (fun ls hl => ?_)
              refine lv_aload_n hx hb dX6_cheapen_83 rfl (lv_at hl 2 rfl) ?_
              refine g_get F hI (by decide) gE_3 rfl ku_X6 1 (by decide) kf_X6_14 rfl dX6_cheapen_84 ?_
              refine lv_iload hx hb dX6_cheapen_87 (lv_at hl 1 rfl) ?_
              refine g_rget F hI 5 (by decide) km_X6_30 ⟨Nat.le_of_ble_eq_true rfl, Nat.le_of_ble_eq_true rfl⟩ hl.1 (Nat.le_of_ble_eq_true rfl) ⟨Nat.zero_le _, Nat.zero_le _⟩ dX6_cheapen_89 (fun H locs hI => ?_)
              refine lv_iconst (v := -1) hx hb dX6_cheapen_92 (by decide) ?_
              obtain ⟨j110, hj110, h⟩ := gJoin0_in h
              have J110 : ∀ (H : Heap) (locs : List Loc) (ls : Array Slot), j110  = some out → g_S 65 D a (gE a cI s_4) s.heap H locs → lv_has ls 6 [(0, .ref (a 3)), (1, .int x1), (3, .int v3_4), (4, .int (f_X8_beyond s_4 x1 v3_4)), (5, .int (((gget s_4 5 x1) + (f_X8_paceCost s_4 (f_X8_beyond s_4 x1 v3_4))) + (4 * (f_X8_climbBetween s_4 x1 (f_X8_beyond s_4 x1 v3_4)))))] → W p l e rmX6_cheapen s m args below meth c H locs 0 0 Q (F0 m 110 ls []) := by
                intro  H locs ls h hI hl
                rw [hj110] at h
                refine lv_aload_n hx hb dX6_cheapen_110 rfl (lv_at hl 0 rfl) ?_
                refine g_get F hI (by decide) gE_3 rfl ku_X6 1 (by decide) kf_X6_14 rfl dX6_cheapen_111 ?_
                refine lv_iload hx hb dX6_cheapen_114 (lv_at hl 3 rfl) ?_
                refine lv_iload hx hb dX6_cheapen_116 (lv_at hl 4 rfl) ?_
                refine g_rput F hI 5 (by decide) km_X6_37 ⟨Nat.le_of_ble_eq_true rfl, Nat.le_of_ble_eq_true rfl⟩ hl.1 (Nat.le_of_ble_eq_true rfl) ⟨Nat.zero_le _, Nat.zero_le _⟩ dX6_cheapen_118 (fun H locs hI => ?_)
                refine lv_iconst (v := 1) hx hb dX6_cheapen_121 (by decide) ?_
                refine lv_istore_n (lv' := [(2, .int 1), (0, .ref (a 3)), (1, .int x1), (3, .int v3_4), (4, .int (f_X8_beyond s_4 x1 v3_4)), (5, .int (((gget s_4 5 x1) + (f_X8_paceCost s_4 (f_X8_beyond s_4 x1 v3_4))) + (4 * (f_X8_climbBetween s_4 x1 (f_X8_beyond s_4 x1 v3_4)))))]) hx hb dX6_cheapen_122 rfl hl (by decide) rfl (fun ls hl => ?_)
                exact J123 _ _ _ _ _ h hI (lv_sub hl [1, 2, 0, 3] rfl)
              refine lv_icmp_eq (tgt := 110) hx hb dX6_cheapen_93 (by decide) (fun c_93 => ?_) (fun c_93 => ?_)
              · have h := (if_pos c_93).symm.trans h
                exact J110 _ _ _ h hI (lv_sub hl [2, 3, 5, 1, 0] rfl)
              · have h := (if_neg c_93).symm.trans h
                refine lv_iload hx hb dX6_cheapen_96 (lv_at hl 0 rfl) ?_
                refine lv_aload_n hx hb dX6_cheapen_98 rfl (lv_at hl 2 rfl) ?_
                refine g_get F hI (by decide) gE_3 rfl ku_X6 1 (by decide) kf_X6_14 rfl dX6_cheapen_99 ?_
                refine lv_iload hx hb dX6_cheapen_102 (lv_at hl 1 rfl) ?_
                refine g_rget F hI 5 (by decide) km_X6_30 ⟨Nat.le_of_ble_eq_true rfl, Nat.le_of_ble_eq_true rfl⟩ hl.1 (Nat.le_of_ble_eq_true rfl) ⟨Nat.zero_le _, Nat.zero_le _⟩ dX6_cheapen_104 (fun H locs hI => ?_)
                refine lv_icmp_ge (tgt := 123) hx hb dX6_cheapen_107 (by decide) (fun c_107 => ?_) (fun c_107 => ?_)
                · have h := (if_pos c_107).symm.trans h
                  exact J123 _ _ _ _ _ h hI (lv_sub hl [2, 3, 4, 5] rfl)
                · have h := (if_neg c_107).symm.trans h
                  exact J110 _ _ _ h hI (lv_sub hl [2, 3, 5, 1, 0] rfl)
  exact L4 _ _ _ _ _ _ _ h hI (lv_sub hl [2, 3, 1, 0] rfl)
/-- Spurline$Routes.searchByCells(I)V -/
def f_X6_searchByCells (N : Nat) (σ : gSt) (x1 : Int32) : Option gSt :=
  gLoop3 (fun self9 (v2_9 : Int32) (v3_9 : Int32) (s_9 : gSt) =>
    if 144 ≤ v3_9 then
      some s_9
    else
      if v2_9 = 0 then
        some s_9
      else
        gLoop3 (fun self25 (v2_25 : Int32) (v4_25 : Int32) (s_25 : gSt) =>
          if 144 ≤ v4_25 then
            self9 v2_25 (v3_9 + 1) s_25
          else
            (f_X6_cheapen N s_25 v4_25).bind (fun (q_36 : Int32 × gSt) =>
            gJoin1 (fun (w0_51 : Int32) =>
                self25 w0_51 (v4_25 + 1) q_36.2) (fun j51 =>
            gJoin0 (
                j51 1) (fun j46 =>
              if q_36.1 = 0 then
                if v2_25 = 0 then
                  j51 0
                else
                  j46
              else
                j46)))) N 0 0 s_9) N 1 0 (f_X6_begin σ x1)
abbrev rmX6_searchByCells : Room := { frames := 3, cells := 0, slots := 0, locals := 71 }
theorem kb_X6_searchByCells : g_CB yX6_searchByCells cX6_searchByCells 5 none 1 := ⟨kc_X6_searchByCells, kn_X6, by decide +kernel⟩
set_option maxRecDepth 100000 in
set_option maxHeartbeats 4000000 in
theorem c_X6_searchByCells (l : Launch) (D : va_G) (a : Nat → Nat) (cI : ClassId) (hj : g_Inj 65 a) (N : Nat) (σ : gSt) (x1 : Int32) (out : gSt) (hh : f_X6_searchByCells N σ x1 = some out) : Met l yX6_searchByCells (Cond.code yX6_searchByCells cX6_searchByCells 5 none :: gW) rmX6_searchByCells (g_Pc 65 D a (gE a cI σ) [(cI, .int)] [.ref (a 3), .int x1]) (g_Qv 65 D a (gE a cI out)) 0 0 (g_Own 65 a) := by
  refine g_metv (by decide) hj (Nat.le_of_ble_eq_true rfl) ?_
  intro p e s m args below meth c Q ls F hl hI hq
  have hx := F.1.1
  have hb := F.1.2.1
  have hl : lv_has ls 5 [(0, .ref (a 3)), (1, .int x1)] := hl
  have h := hh
  unfold f_X6_searchByCells at h
  refine lv_aload_n hx hb dX6_searchByCells_0 rfl (lv_at hl 0 rfl) ?_
  refine lv_iload_n hx hb dX6_searchByCells_1 rfl (lv_at hl 1 rfl) ?_
  refine g_callVv (E' := gE a cI (f_X6_begin σ x1)) (k0 := 3) (As := [.int x1]) (rest := []) F hI (c_X6_begin l D a cI F.2.2 σ x1) kb_X6_begin ki_X6_begin ks_X6_begin km_X6_34 ⟨Nat.le_of_ble_eq_true rfl, Nat.le_of_ble_eq_true rfl, rfl, rfl⟩ (by decide) gE_3 rfl hl.1 rfl (Nat.le_of_ble_eq_true rfl) ⟨Nat.zero_le _, Nat.zero_le _⟩ dX6_searchByCells_2 (fun H locs hI => ?_)
  refine lv_iconst (v := 1) hx hb dX6_searchByCells_5 (by decide) ?_
  refine lv_istore_n (lv' := [(2, .int 1), (0, .ref (a 3)), (1, .int x1)]) hx hb dX6_searchByCells_6 rfl hl (by decide) rfl (fun ls hl => ?_)
  refine lv_iconst (v := 0) hx hb dX6_searchByCells_7 (by decide) ?_
  refine lv_istore_n (lv' := [(3, .int 0), (2, .int 1), (0, .ref (a 3)), (1, .int x1)]) hx hb dX6_searchByCells_8 rfl hl (by decide) rfl (fun ls hl => ?_)
  obtain ⟨lp9, hz9, hs9, h⟩ := gLoop3_in h
  have L9 : ∀ (n : Nat) (v2_9 : Int32) (v3_9 : Int32) (s_9 : gSt) (H : Heap) (locs : List Loc) (ls : Array Slot), lp9 n v2_9 v3_9 s_9 = some out → g_S 65 D a (gE a cI s_9) s.heap H locs → lv_has ls 5 [(0, .ref (a 3)), (2, .int v2_9), (3, .int v3_9)] → W p l e rmX6_searchByCells s m args below meth c H locs 0 0 Q (F0 m 9 ls []) := by
    intro n
    induction n with
    | zero => intro v2_9 v3_9 s_9 H locs ls h; rw [hz9] at h; cases h
    | succ n ih9 =>
      intro v2_9 v3_9 s_9 H locs ls h hI hl
      rw [hs9] at h
      refine lv_iload_n hx hb dX6_searchByCells_9 rfl (lv_at hl 2 rfl) ?_
      refine lv_sipush (v := 144) hx hb dX6_searchByCells_10 (by decide) ?_
      refine lv_icmp_ge (tgt := 64) hx hb dX6_searchByCells_13 (by decide) (fun c_13 => ?_) (fun c_13 => ?_)
      · have h := (if_pos c_13).symm.trans h
        have h := Option.some.inj h
        subst h
        exact hq _ _ _ _ hI dX6_searchByCells_64
      · have h := (if_neg c_13).symm.trans h
        refine lv_iload_n hx hb dX6_searchByCells_16 rfl (lv_at hl 1 rfl) ?_
        refine lv_if_eq (tgt := 64) hx hb dX6_searchByCells_17 (by decide) (fun c_17 => ?_) (fun c_17 => ?_)
        · have h := (if_pos c_17).symm.trans h
          have h := Option.some.inj h
          subst h
          exact hq _ _ _ _ hI dX6_searchByCells_64
        · have h := (if_neg c_17).symm.trans h
          refine lv_iconst (v := 0) hx hb dX6_searchByCells_20 (by decide) ?_
          refine lv_istore_n (lv' := [(2, .int 0), (0, .ref (a 3)), (3, .int v3_9)]) hx hb dX6_searchByCells_21 rfl hl (by decide) rfl (fun ls hl => ?_)
          refine lv_iconst (v := 0) hx hb dX6_searchByCells_22 (by decide) ?_
          refine lv_istore (lv' := [(4, .int 0), (2, .int 0), (0, .ref (a 3)), (3, .int v3_9)]) hx hb dX6_searchByCells_23 hl (by decide) rfl (fun ls hl => ?_)
          obtain ⟨lp25, hz25, hs25, h⟩ := gLoop3_in h
          have L25 : ∀ (n : Nat) (v2_25 : Int32) (v4_25 : Int32) (s_25 : gSt) (H : Heap) (locs : List Loc) (ls : Array Slot), lp25 n v2_25 v4_25 s_25 = some out → g_S 65 D a (gE a cI s_25) s.heap H locs → lv_has ls 5 [(0, .ref (a 3)), (2, .int v2_25), (3, .int v3_9), (4, .int v4_25)] → W p l e rmX6_searchByCells s m args below meth c H locs 0 0 Q (F0 m 25 ls []) := by
            intro n
            induction n with
            | zero => intro v2_25 v4_25 s_25 H locs ls h; rw [hz25] at h; cases h
            | succ n ih25 =>
              intro v2_25 v4_25 s_25 H locs ls h hI hl
              rw [hs25] at h
              refine lv_iload hx hb dX6_searchByCells_25 (lv_at hl 3 rfl) ?_
              refine lv_sipush (v := 144) hx hb dX6_searchByCells_27 (by decide) ?_
              refine lv_icmp_ge (tgt := 58) hx hb dX6_searchByCells_30 (by decide) (fun c_30 => ?_) (fun c_30 => ?_)
              · have h := (if_pos c_30).symm.trans h
                refine lv_iinc (v := v3_9 + 1) (lv' := [(3, .int (v3_9 + 1)), (0, .ref (a 3)), (2, .int v2_25), (4, .int v4_25)]) hx hb dX6_searchByCells_58 hl (k := 2) rfl rfl (by decide) rfl (fun ls hl => ?_)
                refine lv_goto (tgt := 9) hx hb dX6_searchByCells_61 (by decide) ?_
                exact ih9 _ _ _ _ _ _ h hI (lv_sub hl [1, 2, 0] rfl)
              · have h := (if_neg c_30).symm.trans h
                refine lv_aload_n hx hb dX6_searchByCells_33 rfl (lv_at hl 0 rfl) ?_
                refine lv_iload hx hb dX6_searchByCells_34 (lv_at hl 3 rfl) ?_
                obtain ⟨q_36, e_36, h⟩ := gBind_in h
                refine g_callVi (E' := gE a cI q_36.2) (k0 := 3) (As := [.int v4_25]) (rest := []) F hI (c_X6_cheapen l D a cI F.2.2 N s_25 v4_25 q_36 e_36) kb_X6_cheapen ki_X6_cheapen ks_X6_cheapen km_X6_53 ⟨Nat.le_of_ble_eq_true rfl, Nat.le_of_ble_eq_true rfl, rfl, rfl⟩ (by decide) gE_3 rfl hl.1 rfl (Nat.le_of_ble_eq_true rfl) ⟨Nat.zero_le _, Nat.zero_le _⟩ dX6_searchByCells_36 (fun H locs hI => ?_)
                obtain ⟨j51, hj51, h⟩ := gJoin1_in h
                have J51 : ∀ (w0_51 : Int32) (H : Heap) (locs : List Loc) (ls : Array Slot), j51 w0_51 = some out → g_S 65 D a (gE a cI q_36.2) s.heap H locs → lv_has ls 5 [(0, .ref (a 3)), (3, .int v3_9), (4, .int v4_25)] → W p l e rmX6_searchByCells s m args below meth c H locs 0 0 Q (F0 m 51 ls [.int w0_51]) := by
                  intro w0_51 H locs ls h hI hl
                  rw [hj51] at h
                  refine lv_istore_n (lv' := [(2, .int w0_51), (0, .ref (a 3)), (3, .int v3_9), (4, .int v4_25)]) hx hb dX6_searchByCells_51 rfl hl (by decide) rfl (fun ls hl => ?_)
                  refine lv_iinc (v := v4_25 + 1) (lv' := [(4, .int (v4_25 + 1)), (2, .int w0_51), (0, .ref (a 3)), (3, .int v3_9)]) hx hb dX6_searchByCells_52 hl (k := 3) rfl rfl (by decide) rfl (fun ls hl => ?_)
                  refine lv_goto (tgt := 25) hx hb dX6_searchByCells_55 (by decide) ?_
                  exact ih25 _ _ _ _ _ _ h hI (lv_sub hl [2, 1, 3, 0] rfl)
                obtain ⟨j46, hj46, h⟩ := gJoin0_in h
                have J46 : ∀ (H : Heap) (locs : List Loc) (ls : Array Slot), j46  = some out → g_S 65 D a (gE a cI q_36.2) s.heap H locs → lv_has ls 5 [(0, .ref (a 3)), (3, .int v3_9), (4, .int v4_25)] → W p l e rmX6_searchByCells s m args below meth c H locs 0 0 Q (F0 m 46 ls []) := by
                  intro  H locs ls h hI hl
                  rw [hj46] at h
                  refine lv_iconst (v := 1) hx hb dX6_searchByCells_46 (by decide) ?_
                  refine lv_goto (tgt := 51) hx hb dX6_searchByCells_47 (by decide) ?_
                  exact J51 _ _ _ _ h hI (lv_sub hl [0, 1, 2] rfl)
                refine lv_if_ne (tgt := 46) hx hb dX6_searchByCells_39 (by decide) (fun c_39 => ?_) (fun c_39 => ?_)
                · have h := (if_neg c_39).symm.trans h
                  exact J46 _ _ _ h hI (lv_sub hl [0, 2, 3] rfl)
                · have h := (if_pos c_39).symm.trans h
                  refine lv_iload_n hx hb dX6_searchByCells_42 rfl (lv_at hl 1 rfl) ?_
                  refine lv_if_eq (tgt := 50) hx hb dX6_searchByCells_43 (by decide) (fun c_43 => ?_) (fun c_43 => ?_)
                  · have h := (if_pos c_43).symm.trans h
                    refine lv_iconst (v := 0) hx hb dX6_searchByCells_50 (by decide) ?_
                    exact J51 _ _ _ _ h hI (lv_sub hl [0, 2, 3] rfl)
                  · have h := (if_neg c_43).symm.trans h
                    exact J46 _ _ _ h hI (lv_sub hl [0, 2, 3] rfl)
          exact L25 _ _ _ _ _ _ _ h hI (lv_sub hl [2, 1, 3, 0] rfl)
  exact L9 _ _ _ _ _ _ _ h hI (lv_sub hl [2, 1, 0] rfl)
