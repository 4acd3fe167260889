/-- Spurline$Entries.count()I -/
def f_X3_count (σ : gSt) : Int32 :=
  σ.2 10
abbrev rmX3_count : Room := { frames := 0, cells := 0, slots := 0, locals := 0 }
theorem kb_X3_count : g_CB yX3_count cX3_count 1 (some .int) 0 := ⟨kc_X3_count, kn_X3, by decide +kernel⟩
set_option maxRecDepth 100000 in
set_option maxHeartbeats 4000000 in
theorem c_X3_count (l : Launch) (D : va_G) (a : Nat → Nat) (cI : ClassId) (hj : g_Inj 65 a) (σ : gSt) : Met l yX3_count (Cond.code yX3_count cX3_count 1 (some .int) :: gW) rmX3_count (g_Pc 65 D a (gE a cI σ) [(cI, .int)] [.ref (a 7)]) (g_Qi 65 D a (gE a cI σ) (f_X3_count σ)) 0 0 (g_Own 65 a) := by
  generalize hh : f_X3_count σ = out
  refine g_meti (by decide) hj (Nat.le_of_ble_eq_true rfl) ?_
  intro p e s m args below meth c Q ls F hl hI hq
  have hx := F.1.1
  have hb := F.1.2.1
  have hl : lv_has ls 1 [(0, .ref (a 7))] := hl
  have h := hh
  unfold f_X3_count at h
  refine lv_aload_n hx hb dX3_count_0 rfl (lv_at hl 0 rfl) ?_
  refine g_get F hI (by decide) gE_7 rfl ku_X3 7 (by decide) kf_X3_38 rfl dX3_count_1 ?_
  subst h
  exact hq _ _ _ _ hI dX3_count_4
/-- Spurline$Entries.areDrawn()Z -/
def f_X3_areDrawn (σ : gSt) : Int32 :=
  (σ.2 11) &&& 1
abbrev rmX3_areDrawn : Room := { frames := 0, cells := 0, slots := 0, locals := 0 }
theorem kb_X3_areDrawn : g_CB yX3_areDrawn cX3_areDrawn 1 (some .boolean) 0 := ⟨kc_X3_areDrawn, kn_X3, by decide +kernel⟩
set_option maxRecDepth 100000 in
set_option maxHeartbeats 4000000 in
theorem c_X3_areDrawn (l : Launch) (D : va_G) (a : Nat → Nat) (cI : ClassId) (hj : g_Inj 65 a) (σ : gSt) : Met l yX3_areDrawn (Cond.code yX3_areDrawn cX3_areDrawn 1 (some .boolean) :: gW) rmX3_areDrawn (g_Pc 65 D a (gE a cI σ) [(cI, .int)] [.ref (a 7)]) (g_Qi 65 D a (gE a cI σ) (f_X3_areDrawn σ)) 0 0 (g_Own 65 a) := by
  generalize hh : f_X3_areDrawn σ = out
  refine g_metz (by decide) hj (Nat.le_of_ble_eq_true rfl) ?_
  intro p e s m args below meth c Q ls F hl hI hq
  have hx := F.1.1
  have hb := F.1.2.1
  have hl : lv_has ls 1 [(0, .ref (a 7))] := hl
  have h := hh
  unfold f_X3_areDrawn at h
  refine lv_aload_n hx hb dX3_areDrawn_0 rfl (lv_at hl 0 rfl) ?_
  refine g_get F hI (by decide) gE_7 rfl ku_X3 8 (by decide) kf_X3_42 rfl dX3_areDrawn_1 ?_
  subst h
  exact hq _ _ _ _ _ rfl hI dX3_areDrawn_4
/-- Spurline$Entries.klassOf(I)I -/
def f_X3_klassOf (σ : gSt) (x1 : Int32) : Int32 :=
  gget σ 16 x1
abbrev rmX3_klassOf : Room := { frames := 1, cells := 0, slots := 0, locals := 21 }
theorem kb_X3_klassOf : g_CB yX3_klassOf cX3_klassOf 2 (some .int) 1 := ⟨kc_X3_klassOf, kn_X3, by decide +kernel⟩
set_option maxRecDepth 100000 in
set_option maxHeartbeats 4000000 in
theorem c_X3_klassOf (l : Launch) (D : va_G) (a : Nat → Nat) (cI : ClassId) (hj : g_Inj 65 a) (σ : gSt) (x1 : Int32) : Met l yX3_klassOf (Cond.code yX3_klassOf cX3_klassOf 2 (some .int) :: gW) rmX3_klassOf (g_Pc 65 D a (gE a cI σ) [(cI, .int)] [.ref (a 7), .int x1]) (g_Qi 65 D a (gE a cI σ) (f_X3_klassOf σ x1)) 0 0 (g_Own 65 a) := by
  generalize hh : f_X3_klassOf σ x1 = out
  refine g_meti (by decide) hj (Nat.le_of_ble_eq_true rfl) ?_
  intro p e s m args below meth c Q ls F hl hI hq
  have hx := F.1.1
  have hb := F.1.2.1
  have hl : lv_has ls 2 [(0, .ref (a 7)), (1, .int x1)] := hl
  have h := hh
  unfold f_X3_klassOf at h
  refine lv_aload_n hx hb dX3_klassOf_0 rfl (lv_at hl 0 rfl) ?_
  refine g_get F hI (by decide) gE_7 rfl ku_X3 0 (by decide) kf_X3_14 rfl dX3_klassOf_1 ?_
  refine lv_iload_n hx hb dX3_klassOf_4 rfl (lv_at hl 1 rfl) ?_
  refine g_rget F hI 16 (by decide) km_X3_46 ⟨Nat.le_of_ble_eq_true rfl, Nat.le_of_ble_eq_true rfl⟩ hl.1 (Nat.le_of_ble_eq_true rfl) ⟨Nat.zero_le _, Nat.zero_le _⟩ dX3_klassOf_5 (fun H locs hI => ?_)
  subst h
  exact hq _ _ _ _ hI dX3_klassOf_8
/-- Spurline$Entries.startMinute(I)I -/
def f_X3_startMinute (σ : gSt) (x1 : Int32) : Int32 :=
  gget σ 19 x1
abbrev rmX3_startMinute : Room := { frames := 1, cells := 0, slots := 0, locals := 21 }
theorem kb_X3_startMinute : g_CB yX3_startMinute cX3_startMinute 2 (some .int) 1 := ⟨kc_X3_startMinute, kn_X3, by decide +kernel⟩
set_option maxRecDepth 100000 in
set_option maxHeartbeats 4000000 in
theorem c_X3_startMinute (l : Launch) (D : va_G) (a : Nat → Nat) (cI : ClassId) (hj : g_Inj 65 a) (σ : gSt) (x1 : Int32) : Met l yX3_startMinute (Cond.code yX3_startMinute cX3_startMinute 2 (some .int) :: gW) rmX3_startMinute (g_Pc 65 D a (gE a cI σ) [(cI, .int)] [.ref (a 7), .int x1]) (g_Qi 65 D a (gE a cI σ) (f_X3_startMinute σ x1)) 0 0 (g_Own 65 a) := by
  generalize hh : f_X3_startMinute σ x1 = out
  refine g_meti (by decide) hj (Nat.le_of_ble_eq_true rfl) ?_
  intro p e s m args below meth c Q ls F hl hI hq
  have hx := F.1.1
  have hb := F.1.2.1
  have hl : lv_has ls 2 [(0, .ref (a 7)), (1, .int x1)] := hl
  have h := hh
  unfold f_X3_startMinute at h
  refine lv_aload_n hx hb dX3_startMinute_0 rfl (lv_at hl 0 rfl) ?_
  refine g_get F hI (by decide) gE_7 rfl ku_X3 3 (by decide) kf_X3_26 rfl dX3_startMinute_1 ?_
  refine lv_iload_n hx hb dX3_startMinute_4 rfl (lv_at hl 1 rfl) ?_
  refine g_rget F hI 19 (by decide) km_X3_46 ⟨Nat.le_of_ble_eq_true rfl, Nat.le_of_ble_eq_true rfl⟩ hl.1 (Nat.le_of_ble_eq_true rfl) ⟨Nat.zero_le _, Nat.zero_le _⟩ dX3_startMinute_5 (fun H locs hI => ?_)
  subst h
  exact hq _ _ _ _ hI dX3_startMinute_8
/-- Spurline$Entries.add(II)I -/
def f_X3_add (σ : gSt) (x1 x2 : Int32) : Int32 × gSt :=
  (((g_sf (gput (gput (gput σ 16 (σ.2 10) x1) 17 ((gput σ 16 (σ.2 10) x1).2 10) x2) 19 ((gput (gput σ 16 (σ.2 10) x1) 17 ((gput σ 16 (σ.2 10) x1).2 10) x2).2 10) (-1)) 10 (((gput (gput (gput σ 16 (σ.2 10) x1) 17 ((gput σ 16 (σ.2 10) x1).2 10) x2) 19 ((gput (gput σ 16 (σ.2 10) x1) 17 ((gput σ 16 (σ.2 10) x1).2 10) x2).2 10) (-1)).2 10) + 1)).2 10) - 1, g_sf (gput (gput (gput σ 16 (σ.2 10) x1) 17 ((gput σ 16 (σ.2 10) x1).2 10) x2) 19 ((gput (gput σ 16 (σ.2 10) x1) 17 ((gput σ 16 (σ.2 10) x1).2 10) x2).2 10) (-1)) 10 (((gput (gput (gput σ 16 (σ.2 10) x1) 17 ((gput σ 16 (σ.2 10) x1).2 10) x2) 19 ((gput (gput σ 16 (σ.2 10) x1) 17 ((gput σ 16 (σ.2 10) x1).2 10) x2).2 10) (-1)).2 10) + 1))
abbrev rmX3_add : Room := { frames := 1, cells := 0, slots := 0, locals := 22 }
theorem kb_X3_add : g_CB yX3_add cX3_add 3 (some .int) 2 := ⟨kc_X3_add, kn_X3, by decide +kernel⟩
set_option maxRecDepth 100000 in
set_option maxHeartbeats 4000000 in
theorem c_X3_add (l : Launch) (D : va_G) (a : Nat → Nat) (cI : ClassId) (hj : g_Inj 65 a) (σ : gSt) (x1 x2 : Int32) : Met l yX3_add (Cond.code yX3_add cX3_add 3 (some .int) :: gW) rmX3_add (g_Pc 65 D a (gE a cI σ) [(cI, .int)] [.ref (a 7), .int x1, .int x2]) (g_Qi 65 D a (gE a cI (f_X3_add σ x1 x2).2) (f_X3_add σ x1 x2).1) 0 0 (g_Own 65 a) := by
  generalize hh : f_X3_add σ x1 x2 = out
  refine g_meti (by decide) hj (Nat.le_of_ble_eq_true rfl) ?_
  intro p e s m args below meth c Q ls F hl hI hq
  have hx := F.1.1
  have hb := F.1.2.1
  have hl : lv_has ls 3 [(0, .ref (a 7)), (1, .int x1), (2, .int x2)] := hl
  have h := hh
  unfold f_X3_add at h
  refine lv_aload_n hx hb dX3_add_0 rfl (lv_at hl 0 rfl) ?_
  refine g_get F hI (by decide) gE_7 rfl ku_X3 0 (by decide) kf_X3_14 rfl dX3_add_1 ?_
  refine lv_aload_n hx hb dX3_add_4 rfl (lv_at hl 0 rfl) ?_
  refine g_get F hI (by decide) gE_7 rfl ku_X3 7 (by decide) kf_X3_38 rfl dX3_add_5 ?_
  refine lv_iload_n hx hb dX3_add_8 rfl (lv_at hl 1 rfl) ?_
  refine g_rput F hI 16 (by decide) km_X3_50 ⟨Nat.le_of_ble_eq_true rfl, Nat.le_of_ble_eq_true rfl⟩ hl.1 (Nat.le_of_ble_eq_true rfl) ⟨Nat.zero_le _, Nat.zero_le _⟩ dX3_add_9 (fun H locs hI => ?_)
  refine lv_aload_n hx hb dX3_add_12 rfl (lv_at hl 0 rfl) ?_
  refine g_get F hI (by decide) gE_7 rfl ku_X3 1 (by decide) kf_X3_20 rfl dX3_add_13 ?_
  refine lv_aload_n hx hb dX3_add_16 rfl (lv_at hl 0 rfl) ?_
  refine g_get F hI (by decide) gE_7 rfl ku_X3 7 (by decide) kf_X3_38 rfl dX3_add_17 ?_
  refine lv_iload_n hx hb dX3_add_20 rfl (lv_at hl 2 rfl) ?_
  refine g_rput F hI 17 (by decide) km_X3_50 ⟨Nat.le_of_ble_eq_true rfl, Nat.le_of_ble_eq_true rfl⟩ hl.1 (Nat.le_of_ble_eq_true rfl) ⟨Nat.zero_le _, Nat.zero_le _⟩ dX3_add_21 (fun H locs hI => ?_)
  refine lv_aload_n hx hb dX3_add_24 rfl (lv_at hl 0 rfl) ?_
  refine g_get F hI (by decide) gE_7 rfl ku_X3 3 (by decide) kf_X3_26 rfl dX3_add_25 ?_
  refine lv_aload_n hx hb dX3_add_28 rfl (lv_at hl 0 rfl) ?_
  refine g_get F hI (by decide) gE_7 rfl ku_X3 7 (by decide) kf_X3_38 rfl dX3_add_29 ?_
  refine lv_iconst (v := -1) hx hb dX3_add_32 (by decide) ?_
  refine g_rput F hI 19 (by decide) km_X3_50 ⟨Nat.le_of_ble_eq_true rfl, Nat.le_of_ble_eq_true rfl⟩ hl.1 (Nat.le_of_ble_eq_true rfl) ⟨Nat.zero_le _, Nat.zero_le _⟩ dX3_add_33 (fun H locs hI => ?_)
  refine lv_aload_n hx hb dX3_add_36 rfl (lv_at hl 0 rfl) ?_
  refine lv_dup hx hb dX3_add_37 rfl ?_
  refine g_get F hI (by decide) gE_7 rfl ku_X3 7 (by decide) kf_X3_38 rfl dX3_add_38 ?_
  refine lv_iconst (v := 1) hx hb dX3_add_41 (by decide) ?_
  refine lv_iadd hx hb dX3_add_42 ?_
  refine g_put (E' := gE a cI (g_sf (gput (gput (gput σ 16 (σ.2 10) x1) 17 ((gput σ 16 (σ.2 10) x1).2 10) x2) 19 ((gput (gput σ 16 (σ.2 10) x1) 17 ((gput σ 16 (σ.2 10) x1).2 10) x2).2 10) (-1)) 10 (((gput (gput (gput σ 16 (σ.2 10) x1) 17 ((gput σ 16 (σ.2 10) x1).2 10) x2) 19 ((gput (gput σ 16 (σ.2 10) x1) 17 ((gput σ 16 (σ.2 10) x1).2 10) x2).2 10) (-1)).2 10) + 1))) F hI (by decide) gE_7 rfl ku_X3 tyX3_ok nmX3 7 (by decide) kf_X3_38 rfl rfl rfl rfl (Nat.le_of_ble_eq_true rfl) rfl gE_sf_10 dX3_add_43 (fun H locs hI => ?_)
  refine lv_aload_n hx hb dX3_add_46 rfl (lv_at hl 0 rfl) ?_
  refine g_get F hI (by decide) gE_7 rfl ku_X3 7 (by decide) kf_X3_38 rfl dX3_add_47 ?_
  refine lv_iconst (v := 1) hx hb dX3_add_50 (by decide) ?_
  refine lv_isub hx hb dX3_add_51 ?_
  subst h
  exact hq _ _ _ _ hI dX3_add_52
/-- Spurline$Entries.leastLot(II)I -/
def f_X3_leastLot (N : Nat) (σ : gSt) (x1 x2 : Int32) : Option Int32 :=
  gLoop2 (fun self5 (v3_5 : Int32) (v4_5 : Int32) =>
    if σ.2 10 ≤ v4_5 then
      some v3_5
    else
      gJoin1 (fun (w0_45 : Int32) =>
          gJoin1 (fun (v3_93 : Int32) =>
              self5 v3_93 (v4_5 + 1)) (fun j93 =>
            if w0_45 = 0 then
              j93 v3_5
            else
              if gget σ 17 v4_5 = x2 then
                j93 v3_5
              else
                gJoin0 (
                    j93 v4_5) (fun j90 =>
                  if v3_5 = (-1) then
                    j90
                  else
                    if gget σ 18 v3_5 ≤ gget σ 18 v4_5 then
                      j93 v3_5
                    else
                      j90))) (fun j45 =>
      gJoin0 (
          j45 0) (fun j44 =>
        if gget σ 16 v4_5 = x1 then
          if gget σ 19 v4_5 = (-1) then
            j45 1
          else
            j44
        else
          j44))) N (-1) 0
abbrev rmX3_leastLot : Room := { frames := 1, cells := 0, slots := 0, locals := 21 }
theorem kb_X3_leastLot : g_CB yX3_leastLot cX3_leastLot 6 (some .int) 2 := ⟨kc_X3_leastLot, kn_X3, by decide +kernel⟩
set_option maxRecDepth 100000 in
set_option maxHeartbeats 4000000 in
theorem c_X3_leastLot (l : Launch) (D : va_G) (a : Nat → Nat) (cI : ClassId) (hj : g_Inj 65 a) (N : Nat) (σ : gSt) (x1 x2 : Int32) (out : Int32) (hh : f_X3_leastLot N σ x1 x2 = some out) : Met l yX3_leastLot (Cond.code yX3_leastLot cX3_leastLot 6 (some .int) :: gW) rmX3_leastLot (g_Pc 65 D a (gE a cI σ) [(cI, .int)] [.ref (a 7), .int x1, .int x2]) (g_Qi 65 D a (gE a cI σ) out) 0 0 (g_Own 65 a) := by
  refine g_meti (by decide) hj (Nat.le_of_ble_eq_true rfl) ?_
  intro p e s m args below meth c Q ls F hl hI hq
  have hx := F.1.1
  have hb := F.1.2.1
  have hl : lv_has ls 6 [(0, .ref (a 7)), (1, .int x1), (2, .int x2)] := hl
  have h := hh
  unfold f_X3_leastLot at h
  refine lv_iconst (v := -1) hx hb dX3_leastLot_0 (by decide) ?_
  refine lv_istore_n (lv' := [(3, .int (-1)), (0, .ref (a 7)), (1, .int x1), (2, .int x2)]) hx hb dX3_leastLot_1 rfl hl (by decide) rfl (fun ls hl => ?_)
  refine lv_iconst (v := 0) hx hb dX3_leastLot_2 (by decide) ?_
  refine lv_istore (lv' := [(4, .int 0), (3, .int (-1)), (0, .ref (a 7)), (1, .int x1), (2, .int x2)]) hx hb dX3_leastLot_3 hl (by decide) rfl (fun ls hl => ?_)
  obtain ⟨lp5, hz5, hs5, h⟩ := gLoop2_in h
  have L5 : ∀ (n : Nat) (v3_5 : Int32) (v4_5 : Int32) (H : Heap) (locs : List Loc) (ls : Array Slot), lp5 n v3_5 v4_5 = some out → g_S 65 D a (gE a cI σ) s.heap H locs → lv_has ls 6 [(0, .ref (a 7)), (1, .int x1), (2, .int x2), (3, .int v3_5), (4, .int v4_5)] → W p l e rmX3_leastLot s m args below meth c H locs 0 0 Q (F0 m 5 ls []) := by
    intro n
    induction n with
    | zero => intro v3_5 v4_5 H locs ls h; rw [hz5] at h; cases h
    | succ n ih5 =>
      intro v3_5 v4_5 H locs ls h hI hl
      rw [hs5] at h
      refine lv_iload hx hb dX3_leastLot_5 (lv_at hl 4 rfl) ?_
      refine lv_aload_n hx hb dX3_leastLot_7 rfl (lv_at hl 0 rfl) ?_
      refine g_get F hI (by decide) gE_7 rfl ku_X3 7 (by decide) kf_X3_38 rfl dX3_leastLot_8 ?_
      refine lv_icmp_ge (tgt := 99) hx hb dX3_leastLot_11 (by decide) (fun c_11 => ?_) (fun c_11 => ?_)
      · have h := (if_pos c_11).symm.trans h
        refine lv_iload_n hx hb dX3_leastLot_99 rfl (lv_at hl 3 rfl) ?_
        have h := Option.some.inj h
        subst h
        exact hq _ _ _ _ hI dX3_leastLot_100
      · have h := (if_neg c_11).symm.trans h
        refine lv_aload_n hx hb dX3_leastLot_14 rfl (lv_at hl 0 rfl) ?_
        refine g_get F hI (by decide) gE_7 rfl ku_X3 0 (by decide) kf_X3_14 rfl dX3_leastLot_15 ?_
        refine lv_iload hx hb dX3_leastLot_18 (lv_at hl 4 rfl) ?_
        refine g_rget F hI 16 (by decide) km_X3_46 ⟨Nat.le_of_ble_eq_true rfl, Nat.le_of_ble_eq_true rfl⟩ hl.1 (Nat.le_of_ble_eq_true rfl) ⟨Nat.zero_le _, Nat.zero_le _⟩ dX3_leastLot_20 (fun H locs hI => ?_)
        refine lv_iload_n hx hb dX3_leastLot_23 rfl (lv_at hl 1 rfl) ?_
        obtain ⟨j45, hj45, h⟩ := gJoin1_in h
        have J45 : ∀ (w0_45 : Int32) (H : Heap) (locs : List Loc) (ls : Array Slot), j45 w0_45 = some out → g_S 65 D a (gE a cI σ) s.heap H locs → lv_has ls 6 [(0, .ref (a 7)), (1, .int x1), (2, .int x2), (3, .int v3_5), (4, .int v4_5)] → W p l e rmX3_leastLot s m args below meth c H locs 0 0 Q (F0 m 45 ls [.int w0_45]) := by
          intro w0_45 H locs ls h hI hl
          rw [hj45] at h
          refine lv_istore (lv' := [(5, .int w0_45), (0, .ref (a 7)), (1, .int x1), (2, .int x2), (3, .int v3_5), (4, .int v4_5)]) hx hb dX3_leastLot_45 hl (by decide) rfl (fun ls hl => ?_)
          refine lv_iload hx hb dX3_leastLot_47 (lv_at hl 0 rfl) ?_
          obtain ⟨j93, hj93, h⟩ := gJoin1_in h
          have J93 : ∀ (v3_93 : Int32) (H : Heap) (locs : List Loc) (ls : Array Slot), j93 v3_93 = some out → g_S 65 D a (gE a cI σ) s.heap H locs → lv_has ls 6 [(0, .ref (a 7)), (1, .int x1), (2, .int x2), (3, .int v3_93), (4, .int v4_5)] → W p l e rmX3_leastLot s m args below meth c H locs 0 0 Q (F0 m 93 ls []) := by
            intro v3_93 H locs ls h hI hl
            rw [hj93] at h
            refine lv_iinc (v := v4_5 + 1) (lv' := [(4, .int (v4_5 + 1)), (0, .ref (a 7)), (1, .int x1), (2, .int x2), (3, .int v3_93)]) hx hb dX3_leastLot_93 hl (k := 4) rfl rfl (by decide) rfl (fun ls hl => ?_)
            refine lv_goto (tgt := 5) hx hb dX3_leastLot_96 (by decide) ?_
            exact ih5 _ _ _ _ _ h hI (lv_sub hl [1, 2, 3, 4, 0] rfl)
          refine lv_if_eq (tgt := 93) hx hb dX3_leastLot_49 (by decide) (fun c_49 => ?_) (fun c_49 => ?_)
          · have h := (if_pos c_49).symm.trans h
            exact J93 _ _ _ _ h hI (lv_sub hl [1, 2, 3, 4, 5] rfl)
          · have h := (if_neg c_49).symm.trans h
            refine lv_aload_n hx hb dX3_leastLot_52 rfl (lv_at hl 1 rfl) ?_
            refine g_get F hI (by decide) gE_7 rfl ku_X3 1 (by decide) kf_X3_20 rfl dX3_leastLot_53 ?_
            refine lv_iload hx hb dX3_leastLot_56 (lv_at hl 5 rfl) ?_
            refine g_rget F hI 17 (by decide) km_X3_46 ⟨Nat.le_of_ble_eq_true rfl, Nat.le_of_ble_eq_true rfl⟩ hl.1 (Nat.le_of_ble_eq_true rfl) ⟨Nat.zero_le _, Nat.zero_le _⟩ dX3_leastLot_58 (fun H locs hI => ?_)
            refine lv_iload_n hx hb dX3_leastLot_61 rfl (lv_at hl 3 rfl) ?_
            refine lv_icmp_eq (tgt := 93) hx hb dX3_leastLot_62 (by decide) (fun c_62 => ?_) (fun c_62 => ?_)
            · have h := (if_pos c_62).symm.trans h
              exact J93 _ _ _ _ h hI (lv_sub hl [1, 2, 3, 4, 5] rfl)
            · have h := (if_neg c_62).symm.trans h
              refine lv_iload_n hx hb dX3_leastLot_65 rfl (lv_at hl 4 rfl) ?_
              refine lv_iconst (v := -1) hx hb dX3_leastLot_66 (by decide) ?_
              obtain ⟨j90, hj90, h⟩ := gJoin0_in h
              have J90 : ∀ (H : Heap) (locs : List Loc) (ls : Array Slot), j90  = some out → g_S 65 D a (gE a cI σ) s.heap H locs → lv_has ls 6 [(0, .ref (a 7)), (1, .int x1), (2, .int x2), (4, .int v4_5)] → W p l e rmX3_leastLot s m args below meth c H locs 0 0 Q (F0 m 90 ls []) := by
                intro  H locs ls h hI hl
                rw [hj90] at h
                refine lv_iload hx hb dX3_leastLot_90 (lv_at hl 3 rfl) ?_
                refine lv_istore_n (lv' := [(3, .int v4_5), (0, .ref (a 7)), (1, .int x1), (2, .int x2), (4, .int v4_5)]) hx hb dX3_leastLot_92 rfl hl (by decide) rfl (fun ls hl => ?_)
                exact J93 _ _ _ _ h hI (lv_sub hl [1, 2, 3, 0, 4] rfl)
              refine lv_icmp_eq (tgt := 90) hx hb dX3_leastLot_67 (by decide) (fun c_67 => ?_) (fun c_67 => ?_)
              · have h := (if_pos c_67).symm.trans h
                exact J90 _ _ _ h hI (lv_sub hl [1, 2, 3, 5] rfl)
              · have h := (if_neg c_67).symm.trans h
                refine lv_aload_n hx hb dX3_leastLot_70 rfl (lv_at hl 1 rfl) ?_
                refine g_get F hI (by decide) gE_7 rfl ku_X3 2 (by decide) kf_X3_23 rfl dX3_leastLot_71 ?_
                refine lv_iload hx hb dX3_leastLot_74 (lv_at hl 5 rfl) ?_
                refine g_rget F hI 18 (by decide) km_X3_46 ⟨Nat.le_of_ble_eq_true rfl, Nat.le_of_ble_eq_true rfl⟩ hl.1 (Nat.le_of_ble_eq_true rfl) ⟨Nat.zero_le _, Nat.zero_le _⟩ dX3_leastLot_76 (fun H locs hI => ?_)
                refine lv_aload_n hx hb dX3_leastLot_79 rfl (lv_at hl 1 rfl) ?_
                refine g_get F hI (by decide) gE_7 rfl ku_X3 2 (by decide) kf_X3_23 rfl dX3_leastLot_80 ?_
                refine lv_iload_n hx hb dX3_leastLot_83 rfl (lv_at hl 4 rfl) ?_
                refine g_rget F hI 18 (by decide) km_X3_46 ⟨Nat.le_of_ble_eq_true rfl, Nat.le_of_ble_eq_true rfl⟩ hl.1 (Nat.le_of_ble_eq_true rfl) ⟨Nat.zero_le _, Nat.zero_le _⟩ dX3_leastLot_84 (fun H locs hI => ?_)
                refine lv_icmp_ge (tgt := 93) hx hb dX3_leastLot_87 (by decide) (fun c_87 => ?_) (fun c_87 => ?_)
                · have h := (if_pos c_87).symm.trans h
                  exact J93 _ _ _ _ h hI (lv_sub hl [1, 2, 3, 4, 5] rfl)
                · have h := (if_neg c_87).symm.trans h
                  exact J90 _ _ _ h hI (lv_sub hl [1, 2, 3, 5] rfl)
        obtain ⟨j44, hj44, h⟩ := gJoin0_in h
        have J44 : ∀ (H : Heap) (locs : List Loc) (ls : Array Slot), j44  = some out → g_S 65 D a (gE a cI σ) s.heap H locs → lv_has ls 6 [(0, .ref (a 7)), (1, .int x1), (2, .int x2), (3, .int v3_5), (4, .int v4_5)] → W p l e rmX3_leastLot s m args below meth c H locs 0 0 Q (F0 m 44 ls []) := by
          intro  H locs ls h hI hl
          rw [hj44] at h
          refine lv_iconst (v := 0) hx hb dX3_leastLot_44 (by decide) ?_
          exact J45 _ _ _ _ h hI (lv_sub hl [0, 1, 2, 3, 4] rfl)
        refine lv_icmp_ne (tgt := 44) hx hb dX3_leastLot_24 (by decide) (fun c_24 => ?_) (fun c_24 => ?_)
        · have h := (if_neg c_24).symm.trans h
          exact J44 _ _ _ h hI (lv_sub hl [0, 1, 2, 3, 4] rfl)
        · have h := (if_pos c_24).symm.trans h
          refine lv_aload_n hx hb dX3_leastLot_27 rfl (lv_at hl 0 rfl) ?_
          refine g_get F hI (by decide) gE_7 rfl ku_X3 3 (by decide) kf_X3_26 rfl dX3_leastLot_28 ?_
          refine lv_iload hx hb dX3_leastLot_31 (lv_at hl 4 rfl) ?_
          refine g_rget F hI 19 (by decide) km_X3_46 ⟨Nat.le_of_ble_eq_true rfl, Nat.le_of_ble_eq_true rfl⟩ hl.1 (Nat.le_of_ble_eq_true rfl) ⟨Nat.zero_le _, Nat.zero_le _⟩ dX3_leastLot_33 (fun H locs hI => ?_)
          refine lv_iconst (v := -1) hx hb dX3_leastLot_36 (by decide) ?_
          refine lv_icmp_ne (tgt := 44) hx hb dX3_leastLot_37 (by decide) (fun c_37 => ?_) (fun c_37 => ?_)
          · have h := (if_neg c_37).symm.trans h
            exact J44 _ _ _ h hI (lv_sub hl [0, 1, 2, 3, 4] rfl)
          · have h := (if_pos c_37).symm.trans h
            refine lv_iconst (v := 1) hx hb dX3_leastLot_40 (by decide) ?_
            refine lv_goto (tgt := 45) hx hb dX3_leastLot_41 (by decide) ?_
            exact J45 _ _ _ _ h hI (lv_sub hl [0, 1, 2, 3, 4] rfl)
  exact L5 _ _ _ _ _ _ h hI (lv_sub hl [2, 3, 4, 1, 0] rfl)
/-- Spurline$Entries.startKlass(II)I -/
def f_X3_startKlass (N : Nat) (σ : gSt) (x1 x2 : Int32) : Option (Int32 × gSt) :=
  (f_X3_leastLot N σ x1 (-1)).bind (fun (r_5 : Int32) =>
  gLoop4 (fun self13 (v3_13 : Int32) (v4_13 : Int32) (v5_13 : Int32) (s_13 : gSt) =>
    if s_13.2 10 ≤ v5_13 then
      some (v3_13, s_13)
    else
      if v4_13 = (-1) then
        some (v3_13, s_13)
      else
        (f_X3_leastLot N (gput s_13 19 v4_13 (v5_13 * x2)) x1 (gget (gput s_13 19 v4_13 (v5_13 * x2)) 17 v4_13)).bind (fun (r_54 : Int32) =>
        gJoin1 (fun (w0_76 : Int32) =>
            self13 (v5_13 * x2) w0_76 (v5_13 + 1) (gput s_13 19 v4_13 (v5_13 * x2))) (fun j76 =>
          if r_54 = (-1) then
            (f_X3_leastLot N (gput s_13 19 v4_13 (v5_13 * x2)) x1 (-1)).bind (fun (r_73 : Int32) =>
            j76 r_73)
          else
            j76 r_54))) N 0 r_5 0 σ)
abbrev rmX3_startKlass : Room := { frames := 2, cells := 0, slots := 0, locals := 46 }
theorem kb_X3_startKlass : g_CB yX3_startKlass cX3_startKlass 7 (some .int) 2 := ⟨kc_X3_startKlass, kn_X3, by decide +kernel⟩
set_option maxRecDepth 100000 in
set_option maxHeartbeats 4000000 in
theorem c_X3_startKlass (l : Launch) (D : va_G) (a : Nat → Nat) (cI : ClassId) (hj : g_Inj 65 a) (N : Nat) (σ : gSt) (x1 x2 : Int32) (out : Int32 × gSt) (hh : f_X3_startKlass N σ x1 x2 = some out) : Met l yX3_startKlass (Cond.code yX3_startKlass cX3_startKlass 7 (some .int) :: gW) rmX3_startKlass (g_Pc 65 D a (gE a cI σ) [(cI, .int)] [.ref (a 7), .int x1, .int x2]) (g_Qi 65 D a (gE a cI out.2) out.1) 0 0 (g_Own 65 a) := by
  refine g_meti (by decide) hj (Nat.le_of_ble_eq_true rfl) ?_
  intro p e s m args below meth c Q ls F hl hI hq
  have hx := F.1.1
  have hb := F.1.2.1
  have hl : lv_has ls 7 [(0, .ref (a 7)), (1, .int x1), (2, .int x2)] := hl
  have h := hh
  unfold f_X3_startKlass at h
  refine lv_iconst (v := 0) hx hb dX3_startKlass_0 (by decide) ?_
  refine lv_istore_n (lv' := [(3, .int 0), (0, .ref (a 7)), (1, .int x1), (2, .int x2)]) hx hb dX3_startKlass_1 rfl hl (by decide) rfl (fun ls hl => ?_)
  refine lv_aload_n hx hb dX3_startKlass_2 rfl (lv_at hl 1 rfl) ?_
  refine lv_iload_n hx hb dX3_startKlass_3 rfl (lv_at hl 2 rfl) ?_
  refine lv_iconst (v := -1) hx hb dX3_startKlass_4 (by decide) ?_
  obtain ⟨r_5, e_5, h⟩ := gBind_in h
  refine g_callVi (E' := gE a cI σ) (k0 := 7) (As := [.int x1, .int (-1)]) (rest := []) F hI (c_X3_leastLot l D a cI F.2.2 N σ x1 (-1) r_5 e_5) kb_X3_leastLot ki_X3_leastLot ks_X3_leastLot km_X3_63 ⟨Nat.le_of_ble_eq_true rfl, Nat.le_of_ble_eq_true rfl, rfl, rfl⟩ (by decide) gE_7 rfl hl.1 rfl (Nat.le_of_ble_eq_true rfl) ⟨Nat.zero_le _, Nat.zero_le _⟩ dX3_startKlass_5 (fun H locs hI => ?_)
  refine lv_istore (lv' := [(4, .int r_5), (3, .int 0), (0, .ref (a 7)), (1, .int x1), (2, .int x2)]) hx hb dX3_startKlass_8 hl (by decide) rfl (fun ls hl => ?_)
  refine lv_iconst (v := 0) hx hb dX3_startKlass_10 (by decide) ?_
  refine lv_istore (lv' := [(5, .int 0), (4, .int r_5), (3, .int 0), (0, .ref (a 7)), (1, .int x1), (2, .int x2)]) hx hb dX3_startKlass_11 hl (by decide) rfl (fun ls hl => ?_)
  obtain ⟨lp13, hz13, hs13, h⟩ := gLoop4_in h
  have L13 : ∀ (n : Nat) (v3_13 : Int32) (v4_13 : Int32) (v5_13 : Int32) (s_13 : gSt) (H : Heap) (locs : List Loc) (ls : Array Slot), lp13 n v3_13 v4_13 v5_13 s_13 = some out → g_S 65 D a (gE a cI s_13) s.heap H locs → lv_has ls 7 [(0, .ref (a 7)), (1, .int x1), (2, .int x2), (3, .int v3_13), (4, .int v4_13), (5, .int v5_13)] → W p l e rmX3_startKlass s m args below meth c H locs 0 0 Q (F0 m 13 ls []) := by
    intro n
    induction n with
    | zero => intro v3_13 v4_13 v5_13 s_13 H locs ls h; rw [hz13] at h; cases h
    | succ n ih13 =>
      intro v3_13 v4_13 v5_13 s_13 H locs ls h hI hl
      rw [hs13] at h
      refine lv_iload hx hb dX3_startKlass_13 (lv_at hl 5 rfl) ?_
      refine lv_aload_n hx hb dX3_startKlass_15 rfl (lv_at hl 0 rfl) ?_
      refine g_get F hI (by decide) gE_7 rfl ku_X3 7 (by decide) kf_X3_38 rfl dX3_startKlass_16 ?_
      refine lv_icmp_ge (tgt := 84) hx hb dX3_startKlass_19 (by decide) (fun c_19 => ?_) (fun c_19 => ?_)
      · have h := (if_pos c_19).symm.trans h
        refine lv_iload_n hx hb dX3_startKlass_84 rfl (lv_at hl 3 rfl) ?_
        have h := Option.some.inj h
        subst h
        exact hq _ _ _ _ hI dX3_startKlass_85
      · have h := (if_neg c_19).symm.trans h
        refine lv_iload hx hb dX3_startKlass_22 (lv_at hl 4 rfl) ?_
        refine lv_iconst (v := -1) hx hb dX3_startKlass_24 (by decide) ?_
        refine lv_icmp_eq (tgt := 84) hx hb dX3_startKlass_25 (by decide) (fun c_25 => ?_) (fun c_25 => ?_)
        · have h := (if_pos c_25).symm.trans h
          refine lv_iload_n hx hb dX3_startKlass_84 rfl (lv_at hl 3 rfl) ?_
          have h := Option.some.inj h
          subst h
          exact hq _ _ _ _ hI dX3_startKlass_85
        · have h := (if_neg c_25).symm.trans h
          refine lv_iload hx hb dX3_startKlass_28 (lv_at hl 5 rfl) ?_
          refine lv_iload_n hx hb dX3_startKlass_30 rfl (lv_at hl 2 rfl) ?_
          refine lv_imul hx hb dX3_startKlass_31 ?_
          refine lv_istore_n (lv' := [(3, .int (v5_13 * x2)), (0, .ref (a 7)), (1, .int x1), (2, .int x2), (4, .int v4_13), (5, .int v5_13)]) hx hb dX3_startKlass_32 rfl hl (by decide) rfl (fun ls hl => ?_)
          refine lv_aload_n hx hb dX3_startKlass_33 rfl (lv_at hl 1 rfl) ?_
          refine g_get F hI (by decide) gE_7 rfl ku_X3 3 (by decide) kf_X3_26 rfl dX3_startKlass_34 ?_
          refine lv_iload hx hb dX3_startKlass_37 (lv_at hl 4 rfl) ?_
          refine lv_iload_n hx hb dX3_startKlass_39 rfl (lv_at hl 0 rfl) ?_
          refine g_rput F hI 19 (by decide) km_X3_50 ⟨Nat.le_of_ble_eq_true rfl, Nat.le_of_ble_eq_true rfl⟩ hl.1 (Nat.le_of_ble_eq_true rfl) ⟨Nat.zero_le _, Nat.zero_le _⟩ dX3_startKlass_40 (fun H locs hI => ?_)
          refine lv_aload_n hx hb dX3_startKlass_43 rfl (lv_at hl 1 rfl) ?_
          refine lv_iload_n hx hb dX3_startKlass_44 rfl (lv_at hl 2 rfl) ?_
          refine lv_aload_n hx hb dX3_startKlass_45 rfl (lv_at hl 1 rfl) ?_
          refine g_get F hI (by decide) gE_7 rfl ku_X3 1 (by decide) kf_X3_20 rfl dX3_startKlass_46 ?_
          refine lv_iload hx hb dX3_startKlass_49 (lv_at hl 4 rfl) ?_
          refine g_rget F hI 17 (by decide) km_X3_46 ⟨Nat.le_of_ble_eq_true rfl, Nat.le_of_ble_eq_true rfl⟩ hl.1 (Nat.le_of_ble_eq_true rfl) ⟨Nat.zero_le _, Nat.zero_le _⟩ dX3_startKlass_51 (fun H locs hI => ?_)
          obtain ⟨r_54, e_54, h⟩ := gBind_in h
          refine g_callVi (E' := gE a cI (gput s_13 19 v4_13 (v5_13 * x2))) (k0 := 7) (As := [.int x1, .int (gget (gput s_13 19 v4_13 (v5_13 * x2)) 17 v4_13)]) (rest := []) F hI (c_X3_leastLot l D a cI F.2.2 N (gput s_13 19 v4_13 (v5_13 * x2)) x1 (gget (gput s_13 19 v4_13 (v5_13 * x2)) 17 v4_13) r_54 e_54) kb_X3_leastLot ki_X3_leastLot ks_X3_leastLot km_X3_63 ⟨Nat.le_of_ble_eq_true rfl, Nat.le_of_ble_eq_true rfl, rfl, rfl⟩ (by decide) gE_7 rfl hl.1 rfl (Nat.le_of_ble_eq_true rfl) ⟨Nat.zero_le _, Nat.zero_le _⟩ dX3_startKlass_54 (fun H locs hI => ?_)
          refine lv_istore (lv' := [(6, .int r_54), (3, .int (v5_13 * x2)), (0, .ref (a 7)), (1, .int x1), (2, .int x2), (4, .int v4_13), (5, .int v5_13)]) hx hb dX3_startKlass_57 hl (by decide) rfl (fun ls hl => ?_)
          refine lv_iload hx hb dX3_startKlass_59 (lv_at hl 0 rfl) ?_
          refine lv_iconst (v := -1) hx hb dX3_startKlass_61 (by decide) ?_
          obtain ⟨j76, hj76, h⟩ := gJoin1_in h
          have J76 : ∀ (w0_76 : Int32) (H : Heap) (locs : List Loc) (ls : Array Slot), j76 w0_76 = some out → g_S 65 D a (gE a cI (gput s_13 19 v4_13 (v5_13 * x2))) s.heap H locs → lv_has ls 7 [(0, .ref (a 7)), (1, .int x1), (2, .int x2), (3, .int (v5_13 * x2)), (5, .int v5_13)] → W p l e rmX3_startKlass s m args below meth c H locs 0 0 Q (F0 m 76 ls [.int w0_76]) := by
            intro w0_76 H locs ls h hI hl
            rw [hj76] at h
            refine lv_istore (lv' := [(4, .int w0_76), (0, .ref (a 7)), (1, .int x1), (2, .int x2), (3, .int (v5_13 * x2)), (5, .int v5_13)]) hx hb dX3_startKlass_76 hl (by decide) rfl (fun ls hl => ?_)
            refine lv_iinc (v := v5_13 + 1) (lv' := [(5, .int (v5_13 + 1)), (4, .int w0_76), (0, .ref (a 7)), (1, .int x1), (2, .int x2), (3, .int (v5_13 * x2))]) hx hb dX3_startKlass_78 hl (k := 5) rfl rfl (by decide) rfl (fun ls hl => ?_)
            refine lv_goto (tgt := 13) hx hb dX3_startKlass_81 (by decide) ?_
            exact ih13 _ _ _ _ _ _ _ h hI (lv_sub hl [2, 3, 4, 5, 1, 0] rfl)
          refine lv_icmp_eq (tgt := 70) hx hb dX3_startKlass_62 (by decide) (fun c_62 => ?_) (fun c_62 => ?_)
          · have h := (if_pos c_62).symm.trans h
            refine lv_aload_n hx hb dX3_startKlass_70 rfl (lv_at hl 2 rfl) ?_
            refine lv_iload_n hx hb dX3_startKlass_71 rfl (lv_at hl 3 rfl) ?_
            refine lv_iconst (v := -1) hx hb dX3_startKlass_72 (by decide) ?_
            obtain ⟨r_73, e_73, h⟩ := gBind_in h
            refine g_callVi (E' := gE a cI (gput s_13 19 v4_13 (v5_13 * x2))) (k0 := 7) (As := [.int x1, .int (-1)]) (rest := []) F hI (c_X3_leastLot l D a cI F.2.2 N (gput s_13 19 v4_13 (v5_13 * x2)) x1 (-1) r_73 e_73) kb_X3_leastLot ki_X3_leastLot ks_X3_leastLot km_X3_63 ⟨Nat.le_of_ble_eq_true rfl, Nat.le_of_ble_eq_true rfl, rfl, rfl⟩ (by decide) gE_7 rfl hl.1 rfl (Nat.le_of_ble_eq_true rfl) ⟨Nat.zero_le _, Nat.zero_le _⟩ dX3_startKlass_73 (fun H locs hI => ?_)
            exact J76 _ _ _ _ h hI (lv_sub hl [2, 3, 4, 1, 6] rfl)
          · have h := (if_neg c_62).symm.trans h
            refine lv_iload hx hb dX3_startKlass_65 (lv_at hl 0 rfl) ?_
            refine lv_goto (tgt := 76) hx hb dX3_startKlass_67 (by decide) ?_
            exact J76 _ _ _ _ h hI (lv_sub hl [2, 3, 4, 1, 6] rfl)
  exact L13 _ _ _ _ _ _ _ _ h hI (lv_sub hl [3, 4, 5, 2, 1, 0] rfl)
/-- Spurline$Entries.drawStarts(II)I -/
def f_X3_drawStarts (N : Nat) (σ : gSt) (x1 x2 : Int32) : Option (Int32 × gSt) :=
  gLoop3 (fun self5 (v3_5 : Int32) (v4_5 : Int32) (s_5 : gSt) =>
    if s_5.2 10 ≤ v4_5 then
      gLoop3 (fun self50 (v4_50 : Int32) (v5_50 : Int32) (s_50 : gSt) =>
        if 5 ≤ v5_50 then
          some (v4_50, g_sf s_50 11 1)
        else
          (f_X3_startKlass N s_50 v5_50 x2).bind (fun (q_62 : Int32 × gSt) =>
          self50 (jmax v4_50 q_62.1) (v5_50 + 1) q_62.2)) N 0 0 s_5
    else
      self5 (((421 * v3_5) + 1663) - ((421 * v3_5) + 1663) / 7875 * 7875) (v4_5 + 1) (gput s_5 18 v4_5 (((421 * v3_5) + 1663) - ((421 * v3_5) + 1663) / 7875 * 7875))) N x1 0 σ
abbrev rmX3_drawStarts : Room := { frames := 3, cells := 0, slots := 0, locals := 72 }
theorem kb_X3_drawStarts : g_CB yX3_drawStarts cX3_drawStarts 6 (some .int) 2 := ⟨kc_X3_drawStarts, kn_X3, by decide +kernel⟩
set_option maxRecDepth 100000 in
set_option maxHeartbeats 4000000 in
theorem c_X3_drawStarts (l : Launch) (D : va_G) (a : Nat → Nat) (cI : ClassId) (hj : g_Inj 65 a) (N : Nat) (σ : gSt) (x1 x2 : Int32) (out : Int32 × gSt) (hh : f_X3_drawStarts N σ x1 x2 = some out) : Met l yX3_drawStarts (Cond.code yX3_drawStarts cX3_drawStarts 6 (some .int) :: gW) rmX3_drawStarts (g_Pc 65 D a (gE a cI σ) [(cI, .int)] [.ref (a 7), .int x1, .int x2]) (g_Qi 65 D a (gE a cI out.2) out.1) 0 0 (g_Own 65 a) := by
  refine g_meti (by decide) hj (Nat.le_of_ble_eq_true rfl) ?_
  intro p e s m args below meth c Q ls F hl hI hq
  have hx := F.1.1
  have hb := F.1.2.1
  have hl : lv_has ls 6 [(0, .ref (a 7)), (1, .int x1), (2, .int x2)] := hl
  have h := hh
  unfold f_X3_drawStarts at h
  refine lv_iload_n hx hb dX3_drawStarts_0 rfl (lv_at hl 1 rfl) ?_
  refine lv_istore_n (lv' := [(3, .int x1), (0, .ref (a 7)), (1, .int x1), (2, .int x2)]) hx hb dX3_drawStarts_1 rfl hl (by decide) rfl (fun ls hl => ?_)
  refine lv_iconst (v := 0) hx hb dX3_drawStarts_2 (by decide) ?_
  refine lv_istore (lv' := [(4, .int 0), (3, .int x1), (0, .ref (a 7)), (1, .int x1), (2, .int x2)]) hx hb dX3_drawStarts_3 hl (by decide) rfl (fun ls hl => ?_)
  obtain ⟨lp5, hz5, hs5, h⟩ := gLoop3_in h
  have L5 : ∀ (n : Nat) (v3_5 : Int32) (v4_5 : Int32) (s_5 : gSt) (H : Heap) (locs : List Loc) (ls : Array Slot), lp5 n v3_5 v4_5 s_5 = some out → g_S 65 D a (gE a cI s_5) s.heap H locs → lv_has ls 6 [(0, .ref (a 7)), (2, .int x2), (3, .int v3_5), (4, .int v4_5)] → W p l e rmX3_drawStarts s m args below meth c H locs 0 0 Q (F0 m 5 ls []) := by
    intro n
    induction n with
    | zero => intro v3_5 v4_5 s_5 H locs ls h; rw [hz5] at h; cases h
    | succ n ih5 =>
      intro v3_5 v4_5 s_5 H locs ls h hI hl
      rw [hs5] at h
      refine lv_iload hx hb dX3_drawStarts_5 (lv_at hl 3 rfl) ?_
      refine lv_aload_n hx hb dX3_drawStarts_7 rfl (lv_at hl 0 rfl) ?_
      refine g_get F hI (by decide) gE_7 rfl ku_X3 7 (by decide) kf_X3_38 rfl dX3_drawStarts_8 ?_
      refine lv_icmp_ge (tgt := 44) hx hb dX3_drawStarts_11 (by decide) (fun c_11 => ?_) (fun c_11 => ?_)
      · have h := (if_pos c_11).symm.trans h
        refine lv_iconst (v := 0) hx hb dX3_drawStarts_44 (by decide) ?_
        refine lv_istore (lv' := [(4, .int 0), (0, .ref (a 7)), (2, .int x2), (3, .int v3_5)]) hx hb dX3_drawStarts_45 hl (by decide) rfl (fun ls hl => ?_)
        refine lv_iconst (v := 0) hx hb dX3_drawStarts_47 (by decide) ?_
        refine lv_istore (lv' := [(5, .int 0), (4, .int 0), (0, .ref (a 7)), (2, .int x2), (3, .int v3_5)]) hx hb dX3_drawStarts_48 hl (by decide) rfl (fun ls hl => ?_)
        obtain ⟨lp50, hz50, hs50, h⟩ := gLoop3_in h
        have L50 : ∀ (n : Nat) (v4_50 : Int32) (v5_50 : Int32) (s_50 : gSt) (H : Heap) (locs : List Loc) (ls : Array Slot), lp50 n v4_50 v5_50 s_50 = some out → g_S 65 D a (gE a cI s_50) s.heap H locs → lv_has ls 6 [(0, .ref (a 7)), (2, .int x2), (4, .int v4_50), (5, .int v5_50)] → W p l e rmX3_drawStarts s m args below meth c H locs 0 0 Q (F0 m 50 ls []) := by
          intro n
          induction n with
          | zero => intro v4_50 v5_50 s_50 H locs ls h; rw [hz50] at h; cases h
          | succ n ih50 =>
            intro v4_50 v5_50 s_50 H locs ls h hI hl
            rw [hs50] at h
            refine lv_iload hx hb dX3_drawStarts_50 (lv_at hl 3 rfl) ?_
            refine lv_iconst (v := 5) hx hb dX3_drawStarts_52 (by decide) ?_
            refine lv_icmp_ge (tgt := 76) hx hb dX3_drawStarts_53 (by decide) (fun c_53 => ?_) (fun c_53 => ?_)
            · have h := (if_pos c_53).symm.trans h
              refine lv_aload_n hx hb dX3_drawStarts_76 rfl (lv_at hl 0 rfl) ?_
              refine lv_iconst (v := 1) hx hb dX3_drawStarts_77 (by decide) ?_
              refine g_put (E' := gE a cI (g_sf s_50 11 1)) F hI (by decide) gE_7 rfl ku_X3 tyX3_ok nmX3 8 (by decide) kf_X3_42 rfl rfl rfl rfl (Nat.le_of_ble_eq_true rfl) rfl gE_sf_11 dX3_drawStarts_78 (fun H locs hI => ?_)
              refine lv_iload hx hb dX3_drawStarts_81 (lv_at hl 2 rfl) ?_
              have h := Option.some.inj h
              subst h
              exact hq _ _ _ _ hI dX3_drawStarts_83
            · have h := (if_neg c_53).symm.trans h
              refine lv_iload hx hb dX3_drawStarts_56 (lv_at hl 2 rfl) ?_
              refine lv_aload_n hx hb dX3_drawStarts_58 rfl (lv_at hl 0 rfl) ?_
              refine lv_iload hx hb dX3_drawStarts_59 (lv_at hl 3 rfl) ?_
              refine lv_iload_n hx hb dX3_drawStarts_61 rfl (lv_at hl 1 rfl) ?_
              obtain ⟨q_62, e_62, h⟩ := gBind_in h
              refine g_callVi (E' := gE a cI q_62.2) (k0 := 7) (As := [.int v5_50, .int x2]) (rest := [.int v4_50]) F hI (c_X3_startKlass l D a cI F.2.2 N s_50 v5_50 x2 q_62 e_62) kb_X3_startKlass ki_X3_startKlass ks_X3_startKlass km_X3_54 ⟨Nat.le_of_ble_eq_true rfl, Nat.le_of_ble_eq_true rfl, rfl, rfl⟩ (by decide) gE_7 rfl hl.1 rfl (Nat.le_of_ble_eq_true rfl) ⟨Nat.zero_le _, Nat.zero_le _⟩ dX3_drawStarts_62 (fun H locs hI => ?_)
              refine g_mmax F hl.1 km_X3_58 ⟨Nat.le_of_ble_eq_true rfl, Nat.le_of_ble_eq_true rfl⟩ ⟨Nat.zero_le _, Nat.zero_le _⟩ dX3_drawStarts_65 ?_
              refine lv_istore (lv' := [(4, .int (jmax v4_50 q_62.1)), (0, .ref (a 7)), (2, .int x2), (5, .int v5_50)]) hx hb dX3_drawStarts_68 hl (by decide) rfl (fun ls hl => ?_)
              refine lv_iinc (v := v5_50 + 1) (lv' := [(5, .int (v5_50 + 1)), (4, .int (jmax v4_50 q_62.1)), (0, .ref (a 7)), (2, .int x2)]) hx hb dX3_drawStarts_70 hl (k := 3) rfl rfl (by decide) rfl (fun ls hl => ?_)
              refine lv_goto (tgt := 50) hx hb dX3_drawStarts_73 (by decide) ?_
              exact ih50 _ _ _ _ _ _ h hI (lv_sub hl [2, 3, 1, 0] rfl)
        exact L50 _ _ _ _ _ _ _ h hI (lv_sub hl [2, 3, 1, 0] rfl)
      · have h := (if_neg c_11).symm.trans h
        refine lv_sipush (v := 421) hx hb dX3_drawStarts_14 (by decide) ?_
        refine lv_iload_n hx hb dX3_drawStarts_17 rfl (lv_at hl 2 rfl) ?_
        refine lv_imul hx hb dX3_drawStarts_18 ?_
        refine lv_sipush (v := 1663) hx hb dX3_drawStarts_19 (by decide) ?_
        refine lv_iadd hx hb dX3_drawStarts_22 ?_
        refine lv_sipush (v := 7875) hx hb dX3_drawStarts_23 (by decide) ?_
        refine lv_irem hx hb dX3_drawStarts_26 (by decide) ?_
        refine lv_istore_n (lv' := [(3, .int (((421 * v3_5) + 1663) - ((421 * v3_5) + 1663) / 7875 * 7875)), (0, .ref (a 7)), (2, .int x2), (4, .int v4_5)]) hx hb dX3_drawStarts_27 rfl hl (by decide) rfl (fun ls hl => ?_)
        refine lv_aload_n hx hb dX3_drawStarts_28 rfl (lv_at hl 1 rfl) ?_
        refine g_get F hI (by decide) gE_7 rfl ku_X3 2 (by decide) kf_X3_23 rfl dX3_drawStarts_29 ?_
        refine lv_iload hx hb dX3_drawStarts_32 (lv_at hl 3 rfl) ?_
        refine lv_iload_n hx hb dX3_drawStarts_34 rfl (lv_at hl 0 rfl) ?_
        refine g_rput F hI 18 (by decide) km_X3_50 ⟨Nat.le_of_ble_eq_true rfl, Nat.le_of_ble_eq_true rfl⟩ hl.1 (Nat.le_of_ble_eq_true rfl) ⟨Nat.zero_le _, Nat.zero_le _⟩ dX3_drawStarts_35 (fun H locs hI => ?_)
        refine lv_iinc (v := v4_5 + 1) (lv' := [(4, .int (v4_5 + 1)), (3, .int (((421 * v3_5) + 1663) - ((421 * v3_5) + 1663) / 7875 * 7875)), (0, .ref (a 7)), (2, .int x2)]) hx hb dX3_drawStarts_38 hl (k := 3) rfl rfl (by decide) rfl (fun ls hl => ?_)
        refine lv_goto (tgt := 5) hx hb dX3_drawStarts_41 (by decide) ?_
        exact ih5 _ _ _ _ _ _ h hI (lv_sub hl [2, 3, 1, 0] rfl)
  exact L5 _ _ _ _ _ _ _ h hI (lv_sub hl [2, 4, 1, 0] rfl)
/-- Spurline$Entries.punchCount(I)I -/
def f_X3_punchCount (σ : gSt) (x1 : Int32) : Int32 :=
  gget σ 20 x1
abbrev rmX3_punchCount : Room := { frames := 1, cells := 0, slots := 0, locals := 21 }
theorem kb_X3_punchCount : g_CB yX3_punchCount cX3_punchCount 2 (some .int) 1 := ⟨kc_X3_punchCount, kn_X3, by decide +kernel⟩
set_option maxRecDepth 100000 in
set_option maxHeartbeats 4000000 in
theorem c_X3_punchCount (l : Launch) (D : va_G) (a : Nat → Nat) (cI : ClassId) (hj : g_Inj 65 a) (σ : gSt) (x1 : Int32) : Met l yX3_punchCount (Cond.code yX3_punchCount cX3_punchCount 2 (some .int) :: gW) rmX3_punchCount (g_Pc 65 D a (gE a cI σ) [(cI, .int)] [.ref (a 7), .int x1]) (g_Qi 65 D a (gE a cI σ) (f_X3_punchCount σ x1)) 0 0 (g_Own 65 a) := by
  generalize hh : f_X3_punchCount σ x1 = out
  refine g_meti (by decide) hj (Nat.le_of_ble_eq_true rfl) ?_
  intro p e s m args below meth c Q ls F hl hI hq
  have hx := F.1.1
  have hb := F.1.2.1
  have hl : lv_has ls 2 [(0, .ref (a 7)), (1, .int x1)] := hl
  have h := hh
  unfold f_X3_punchCount at h
  refine lv_aload_n hx hb dX3_punchCount_0 rfl (lv_at hl 0 rfl) ?_
  refine g_get F hI (by decide) gE_7 rfl ku_X3 4 (by decide) kf_X3_29 rfl dX3_punchCount_1 ?_
  refine lv_iload_n hx hb dX3_punchCount_4 rfl (lv_at hl 1 rfl) ?_
  refine g_rget F hI 20 (by decide) km_X3_46 ⟨Nat.le_of_ble_eq_true rfl, Nat.le_of_ble_eq_true rfl⟩ hl.1 (Nat.le_of_ble_eq_true rfl) ⟨Nat.zero_le _, Nat.zero_le _⟩ dX3_punchCount_5 (fun H locs hI => ?_)
  subst h
  exact hq _ _ _ _ hI dX3_punchCount_8
/-- Spurline$Entries.punchedControl(II)I -/
def f_X3_punchedControl (σ : gSt) (x1 x2 : Int32) : Int32 :=
  gget σ 21 ((x1 * 20) + x2)
abbrev rmX3_punchedControl : Room := { frames := 1, cells := 0, slots := 0, locals := 21 }
theorem kb_X3_punchedControl : g_CB yX3_punchedControl cX3_punchedControl 3 (some .int) 2 := ⟨kc_X3_punchedControl, kn_X3, by decide +kernel⟩
set_option maxRecDepth 100000 in
set_option maxHeartbeats 4000000 in
theorem c_X3_punchedControl (l : Launch) (D : va_G) (a : Nat → Nat) (cI : ClassId) (hj : g_Inj 65 a) (σ : gSt) (x1 x2 : Int32) : Met l yX3_punchedControl (Cond.code yX3_punchedControl cX3_punchedControl 3 (some .int) :: gW) rmX3_punchedControl (g_Pc 65 D a (gE a cI σ) [(cI, .int)] [.ref (a 7), .int x1, .int x2]) (g_Qi 65 D a (gE a cI σ) (f_X3_punchedControl σ x1 x2)) 0 0 (g_Own 65 a) := by
  generalize hh : f_X3_punchedControl σ x1 x2 = out
  refine g_meti (by decide) hj (Nat.le_of_ble_eq_true rfl) ?_
  intro p e s m args below meth c Q ls F hl hI hq
  have hx := F.1.1
  have hb := F.1.2.1
  have hl : lv_has ls 3 [(0, .ref (a 7)), (1, .int x1), (2, .int x2)] := hl
  have h := hh
  unfold f_X3_punchedControl at h
  refine lv_aload_n hx hb dX3_punchedControl_0 rfl (lv_at hl 0 rfl) ?_
  refine g_get F hI (by decide) gE_7 rfl ku_X3 5 (by decide) kf_X3_32 rfl dX3_punchedControl_1 ?_
  refine lv_iload_n hx hb dX3_punchedControl_4 rfl (lv_at hl 1 rfl) ?_
  refine lv_bipush (v := 20) hx hb dX3_punchedControl_5 (by decide) ?_
  refine lv_imul hx hb dX3_punchedControl_7 ?_
  refine lv_iload_n hx hb dX3_punchedControl_8 rfl (lv_at hl 2 rfl) ?_
  refine lv_iadd hx hb dX3_punchedControl_9 ?_
  refine g_rget F hI 21 (by decide) km_X3_46 ⟨Nat.le_of_ble_eq_true rfl, Nat.le_of_ble_eq_true rfl⟩ hl.1 (Nat.le_of_ble_eq_true rfl) ⟨Nat.zero_le _, Nat.zero_le _⟩ dX3_punchedControl_10 (fun H locs hI => ?_)
  subst h
  exact hq _ _ _ _ hI dX3_punchedControl_13
/-- Spurline$Entries.punchedMinute(II)I -/
def f_X3_punchedMinute (σ : gSt) (x1 x2 : Int32) : Int32 :=
  gget σ 22 ((x1 * 20) + x2)
abbrev rmX3_punchedMinute : Room := { frames := 1, cells := 0, slots := 0, locals := 21 }
theorem kb_X3_punchedMinute : g_CB yX3_punchedMinute cX3_punchedMinute 3 (some .int) 2 := ⟨kc_X3_punchedMinute, kn_X3, by decide +kernel⟩
set_option maxRecDepth 100000 in
set_option maxHeartbeats 4000000 in
theorem c_X3_punchedMinute (l : Launch) (D : va_G) (a : Nat → Nat) (cI : ClassId) (hj : g_Inj 65 a) (σ : gSt) (x1 x2 : Int32) : Met l yX3_punchedMinute (Cond.code yX3_punchedMinute cX3_punchedMinute 3 (some .int) :: gW) rmX3_punchedMinute (g_Pc 65 D a (gE a cI σ) [(cI, .int)] [.ref (a 7), .int x1, .int x2]) (g_Qi 65 D a (gE a cI σ) (f_X3_punchedMinute σ x1 x2)) 0 0 (g_Own 65 a) := by
  generalize hh : f_X3_punchedMinute σ x1 x2 = out
  refine g_meti (by decide) hj (Nat.le_of_ble_eq_true rfl) ?_
  intro p e s m args below meth c Q ls F hl hI hq
  have hx := F.1.1
  have hb := F.1.2.1
  have hl : lv_has ls 3 [(0, .ref (a 7)), (1, .int x1), (2, .int x2)] := hl
  have h := hh
  unfold f_X3_punchedMinute at h
  refine lv_aload_n hx hb dX3_punchedMinute_0 rfl (lv_at hl 0 rfl) ?_
  refine g_get F hI (by decide) gE_7 rfl ku_X3 6 (by decide) kf_X3_35 rfl dX3_punchedMinute_1 ?_
  refine lv_iload_n hx hb dX3_punchedMinute_4 rfl (lv_at hl 1 rfl) ?_
  refine lv_bipush (v := 20) hx hb dX3_punchedMinute_5 (by decide) ?_
  refine lv_imul hx hb dX3_punchedMinute_7 ?_
  refine lv_iload_n hx hb dX3_punchedMinute_8 rfl (lv_at hl 2 rfl) ?_
  refine lv_iadd hx hb dX3_punchedMinute_9 ?_
  refine g_rget F hI 22 (by decide) km_X3_46 ⟨Nat.le_of_ble_eq_true rfl, Nat.le_of_ble_eq_true rfl⟩ hl.1 (Nat.le_of_ble_eq_true rfl) ⟨Nat.zero_le _, Nat.zero_le _⟩ dX3_punchedMinute_10 (fun H locs hI => ?_)
  subst h
  exact hq _ _ _ _ hI dX3_punchedMinute_13
/-- Spurline$Entries.earliestPunch(I)I -/
def f_X3_earliestPunch (σ : gSt) (x1 : Int32) : Int32 :=
  if gget σ 20 x1 ≤ 0 then
    gget σ 19 x1
  else
    f_X3_punchedMinute σ x1 ((gget σ 20 x1) - 1)
abbrev rmX3_earliestPunch : Room := { frames := 2, cells := 0, slots := 0, locals := 43 }
theorem kb_X3_earliestPunch : g_CB yX3_earliestPunch cX3_earliestPunch 3 (some .int) 1 := ⟨kc_X3_earliestPunch, kn_X3, by decide +kernel⟩
set_option maxRecDepth 100000 in
set_option maxHeartbeats 4000000 in
theorem c_X3_earliestPunch (l : Launch) (D : va_G) (a : Nat → Nat) (cI : ClassId) (hj : g_Inj 65 a) (σ : gSt) (x1 : Int32) : Met l yX3_earliestPunch (Cond.code yX3_earliestPunch cX3_earliestPunch 3 (some .int) :: gW) rmX3_earliestPunch (g_Pc 65 D a (gE a cI σ) [(cI, .int)] [.ref (a 7), .int x1]) (g_Qi 65 D a (gE a cI σ) (f_X3_earliestPunch σ x1)) 0 0 (g_Own 65 a) := by
  generalize hh : f_X3_earliestPunch σ x1 = out
  refine g_meti (by decide) hj (Nat.le_of_ble_eq_true rfl) ?_
  intro p e s m args below meth c Q ls F hl hI hq
  have hx := F.1.1
  have hb := F.1.2.1
  have hl : lv_has ls 3 [(0, .ref (a 7)), (1, .int x1)] := hl
  have h := hh
  unfold f_X3_earliestPunch at h
  refine lv_aload_n hx hb dX3_earliestPunch_0 rfl (lv_at hl 0 rfl) ?_
  refine g_get F hI (by decide) gE_7 rfl ku_X3 4 (by decide) kf_X3_29 rfl dX3_earliestPunch_1 ?_
  refine lv_iload_n hx hb dX3_earliestPunch_4 rfl (lv_at hl 1 rfl) ?_
  refine g_rget F hI 20 (by decide) km_X3_46 ⟨Nat.le_of_ble_eq_true rfl, Nat.le_of_ble_eq_true rfl⟩ hl.1 (Nat.le_of_ble_eq_true rfl) ⟨Nat.zero_le _, Nat.zero_le _⟩ dX3_earliestPunch_5 (fun H locs hI => ?_)
  refine lv_istore_n (lv' := [(2, .int (gget σ 20 x1)), (0, .ref (a 7)), (1, .int x1)]) hx hb dX3_earliestPunch_8 rfl hl (by decide) rfl (fun ls hl => ?_)
  refine lv_iload_n hx hb dX3_earliestPunch_9 rfl (lv_at hl 0 rfl) ?_
  refine lv_if_le (tgt := 24) hx hb dX3_earliestPunch_10 (by decide) (fun c_10 => ?_) (fun c_10 => ?_)
  · have h := (if_pos c_10).symm.trans h
    refine lv_aload_n hx hb dX3_earliestPunch_24 rfl (lv_at hl 1 rfl) ?_
    refine g_get F hI (by decide) gE_7 rfl ku_X3 3 (by decide) kf_X3_26 rfl dX3_earliestPunch_25 ?_
    refine lv_iload_n hx hb dX3_earliestPunch_28 rfl (lv_at hl 2 rfl) ?_
    refine g_rget F hI 19 (by decide) km_X3_46 ⟨Nat.le_of_ble_eq_true rfl, Nat.le_of_ble_eq_true rfl⟩ hl.1 (Nat.le_of_ble_eq_true rfl) ⟨Nat.zero_le _, Nat.zero_le _⟩ dX3_earliestPunch_29 (fun H locs hI => ?_)
    subst h
    exact hq _ _ _ _ hI dX3_earliestPunch_32
  · have h := (if_neg c_10).symm.trans h
    refine lv_aload_n hx hb dX3_earliestPunch_13 rfl (lv_at hl 1 rfl) ?_
    refine lv_iload_n hx hb dX3_earliestPunch_14 rfl (lv_at hl 2 rfl) ?_
    refine lv_iload_n hx hb dX3_earliestPunch_15 rfl (lv_at hl 0 rfl) ?_
    refine lv_iconst (v := 1) hx hb dX3_earliestPunch_16 (by decide) ?_
    refine lv_isub hx hb dX3_earliestPunch_17 ?_
    refine g_callVi (E' := gE a cI σ) (k0 := 7) (As := [.int x1, .int ((gget σ 20 x1) - 1)]) (rest := []) F hI (c_X3_punchedMinute l D a cI F.2.2 σ x1 ((gget σ 20 x1) - 1)) kb_X3_punchedMinute ki_X3_punchedMinute ks_X3_punchedMinute km_X3_66 ⟨Nat.le_of_ble_eq_true rfl, Nat.le_of_ble_eq_true rfl, rfl, rfl⟩ (by decide) gE_7 rfl hl.1 rfl (Nat.le_of_ble_eq_true rfl) ⟨Nat.zero_le _, Nat.zero_le _⟩ dX3_earliestPunch_18 (fun H locs hI => ?_)
    refine lv_goto (tgt := 32) hx hb dX3_earliestPunch_21 (by decide) ?_
    subst h
    exact hq _ _ _ _ hI dX3_earliestPunch_32
/-- Spurline$Entries.addPunch(III)V -/
def f_X3_addPunch (σ : gSt) (x1 x2 x3 : Int32) : gSt :=
  ginc (gput (gput σ 21 ((x1 * 20) + (gget σ 20 x1)) x2) 22 ((x1 * 20) + (gget σ 20 x1)) x3) 20 x1 1
abbrev rmX3_addPunch : Room := { frames := 2, cells := 0, slots := 0, locals := 44 }
theorem kb_X3_addPunch : g_CB yX3_addPunch cX3_addPunch 5 none 3 := ⟨kc_X3_addPunch, kn_X3, by decide +kernel⟩
set_option maxRecDepth 100000 in
set_option maxHeartbeats 4000000 in
theorem c_X3_addPunch (l : Launch) (D : va_G) (a : Nat → Nat) (cI : ClassId) (hj : g_Inj 65 a) (σ : gSt) (x1 x2 x3 : Int32) : Met l yX3_addPunch (Cond.code yX3_addPunch cX3_addPunch 5 none :: gW) rmX3_addPunch (g_Pc 65 D a (gE a cI σ) [(cI, .int)] [.ref (a 7), .int x1, .int x2, .int x3]) (g_Qv 65 D a (gE a cI (f_X3_addPunch σ x1 x2 x3))) 0 0 (g_Own 65 a) := by
  generalize hh : f_X3_addPunch σ x1 x2 x3 = out
  refine g_metv (by decide) hj (Nat.le_of_ble_eq_true rfl) ?_
  intro p e s m args below meth c Q ls F hl hI hq
  have hx := F.1.1
  have hb := F.1.2.1
  have hl : lv_has ls 5 [(0, .ref (a 7)), (1, .int x1), (2, .int x2), (3, .int x3)] := hl
  have h := hh
  unfold f_X3_addPunch at h
  refine lv_iload_n hx hb dX3_addPunch_0 rfl (lv_at hl 1 rfl) ?_
  refine lv_bipush (v := 20) hx hb dX3_addPunch_1 (by decide) ?_
  refine lv_imul hx hb dX3_addPunch_3 ?_
  refine lv_aload_n hx hb dX3_addPunch_4 rfl (lv_at hl 0 rfl) ?_
  refine g_get F hI (by decide) gE_7 rfl ku_X3 4 (by decide) kf_X3_29 rfl dX3_addPunch_5 ?_
  refine lv_iload_n hx hb dX3_addPunch_8 rfl (lv_at hl 1 rfl) ?_
  refine g_rget F hI 20 (by decide) km_X3_46 ⟨Nat.le_of_ble_eq_true rfl, Nat.le_of_ble_eq_true rfl⟩ hl.1 (Nat.le_of_ble_eq_true rfl) ⟨Nat.zero_le _, Nat.zero_le _⟩ dX3_addPunch_9 (fun H locs hI => ?_)
  refine lv_iadd hx hb dX3_addPunch_12 ?_
  refine lv_istore (lv' := [(4, .int ((x1 * 20) + (gget σ 20 x1))), (0, .ref (a 7)), (1, .int x1), (2, .int x2), (3, .int x3)]) hx hb dX3_addPunch_13 hl (by decide) rfl (fun ls hl => ?_)
  refine lv_aload_n hx hb dX3_addPunch_15 rfl (lv_at hl 1 rfl) ?_
  refine g_get F hI (by decide) gE_7 rfl ku_X3 5 (by decide) kf_X3_32 rfl dX3_addPunch_16 ?_
  refine lv_iload hx hb dX3_addPunch_19 (lv_at hl 0 rfl) ?_
  refine lv_iload_n hx hb dX3_addPunch_21 rfl (lv_at hl 3 rfl) ?_
  refine g_rput F hI 21 (by decide) km_X3_50 ⟨Nat.le_of_ble_eq_true rfl, Nat.le_of_ble_eq_true rfl⟩ hl.1 (Nat.le_of_ble_eq_true rfl) ⟨Nat.zero_le _, Nat.zero_le _⟩ dX3_addPunch_22 (fun H locs hI => ?_)
  refine lv_aload_n hx hb dX3_addPunch_25 rfl (lv_at hl 1 rfl) ?_
  refine g_get F hI (by decide) gE_7 rfl ku_X3 6 (by decide) kf_X3_35 rfl dX3_addPunch_26 ?_
  refine lv_iload hx hb dX3_addPunch_29 (lv_at hl 0 rfl) ?_
  refine lv_iload_n hx hb dX3_addPunch_31 rfl (lv_at hl 4 rfl) ?_
  refine g_rput F hI 22 (by decide) km_X3_50 ⟨Nat.le_of_ble_eq_true rfl, Nat.le_of_ble_eq_true rfl⟩ hl.1 (Nat.le_of_ble_eq_true rfl) ⟨Nat.zero_le _, Nat.zero_le _⟩ dX3_addPunch_32 (fun H locs hI => ?_)
  refine lv_aload_n hx hb dX3_addPunch_35 rfl (lv_at hl 1 rfl) ?_
  refine g_get F hI (by decide) gE_7 rfl ku_X3 4 (by decide) kf_X3_29 rfl dX3_addPunch_36 ?_
  refine lv_iload_n hx hb dX3_addPunch_39 rfl (lv_at hl 2 rfl) ?_
  refine lv_iconst (v := 1) hx hb dX3_addPunch_40 (by decide) ?_
  refine g_rinc F hI 20 (by decide) km_X3_69 ⟨Nat.le_of_ble_eq_true rfl, Nat.le_of_ble_eq_true rfl⟩ hl.1 (Nat.le_of_ble_eq_true rfl) ⟨Nat.zero_le _, Nat.zero_le _⟩ dX3_addPunch_41 (fun H locs hI => ?_)
  subst h
  exact hq _ _ _ _ hI dX3_addPunch_44
/-- Spurline$Entries.hasPunched(II)Z -/
def f_X3_hasPunched (N : Nat) (σ : gSt) (x1 x2 : Int32) : Option Int32 :=
  gLoop1 (fun self2 (v3_2 : Int32) =>
    if gget σ 20 x1 ≤ v3_2 then
      some 0
    else
      if f_X3_punchedControl σ x1 v3_2 = x2 then
        some 1
      else
        self2 (v3_2 + 1)) N 0
abbrev rmX3_hasPunched : Room := { frames := 2, cells := 0, slots := 0, locals := 43 }
theorem kb_X3_hasPunched : g_CB yX3_hasPunched cX3_hasPunched 4 (some .boolean) 2 := ⟨kc_X3_hasPunched, kn_X3, by decide +kernel⟩
set_option maxRecDepth 100000 in
set_option maxHeartbeats 4000000 in
theorem c_X3_hasPunched (l : Launch) (D : va_G) (a : Nat → Nat) (cI : ClassId) (hj : g_Inj 65 a) (N : Nat) (σ : gSt) (x1 x2 : Int32) (out : Int32) (hh : f_X3_hasPunched N σ x1 x2 = some out) : Met l yX3_hasPunched (Cond.code yX3_hasPunched cX3_hasPunched 4 (some .boolean) :: gW) rmX3_hasPunched (g_Pc 65 D a (gE a cI σ) [(cI, .int)] [.ref (a 7), .int x1, .int x2]) (g_Qi 65 D a (gE a cI σ) out) 0 0 (g_Own 65 a) := by
  refine g_metz (by decide) hj (Nat.le_of_ble_eq_true rfl) ?_
  intro p e s m args below meth c Q ls F hl hI hq
  have hx := F.1.1
  have hb := F.1.2.1
  have hl : lv_has ls 4 [(0, .ref (a 7)), (1, .int x1), (2, .int x2)] := hl
  have h := hh
  unfold f_X3_hasPunched at h
  refine lv_iconst (v := 0) hx hb dX3_hasPunched_0 (by decide) ?_
  refine lv_istore_n (lv' := [(3, .int 0), (0, .ref (a 7)), (1, .int x1), (2, .int x2)]) hx hb dX3_hasPunched_1 rfl hl (by decide) rfl (fun ls hl => ?_)
  obtain ⟨lp2, hz2, hs2, h⟩ := gLoop1_in h
  have L2 : ∀ (n : Nat) (v3_2 : Int32) (H : Heap) (locs : List Loc) (ls : Array Slot), lp2 n v3_2 = some out → g_S 65 D a (gE a cI σ) s.heap H locs → lv_has ls 4 [(0, .ref (a 7)), (1, .int x1), (2, .int x2), (3, .int v3_2)] → W p l e rmX3_hasPunched s m args below meth c H locs 0 0 Q (F0 m 2 ls []) := by
    intro n
    induction n with
    | zero => intro v3_2 H locs ls h; rw [hz2] at h; cases h
    | succ n ih2 =>
      intro v3_2 H locs ls h hI hl
      rw [hs2] at h
      refine lv_iload_n hx hb dX3_hasPunched_2 rfl (lv_at hl 3 rfl) ?_
      refine lv_aload_n hx hb dX3_hasPunched_3 rfl (lv_at hl 0 rfl) ?_
      refine g_get F hI (by decide) gE_7 rfl ku_X3 4 (by decide) kf_X3_29 rfl dX3_hasPunched_4 ?_
      refine lv_iload_n hx hb dX3_hasPunched_7 rfl (lv_at hl 1 rfl) ?_
      refine g_rget F hI 20 (by decide) km_X3_46 ⟨Nat.le_of_ble_eq_true rfl, Nat.le_of_ble_eq_true rfl⟩ hl.1 (Nat.le_of_ble_eq_true rfl) ⟨Nat.zero_le _, Nat.zero_le _⟩ dX3_hasPunched_8 (fun H locs hI => ?_)
      refine lv_icmp_ge (tgt := 32) hx hb dX3_hasPunched_11 (by decide) (fun c_11 => ?_) (fun c_11 => ?_)
      · have h := (if_pos c_11).symm.trans h
        refine lv_iconst (v := 0) hx hb dX3_hasPunched_32 (by decide) ?_
        have h := Option.some.inj h
        subst h
        exact hq _ _ _ _ _ (show (0 : Int32) &&& 1 = 0 from by decide) hI dX3_hasPunched_33
      · have h := (if_neg c_11).symm.trans h
        refine lv_aload_n hx hb dX3_hasPunched_14 rfl (lv_at hl 0 rfl) ?_
        refine lv_iload_n hx hb dX3_hasPunched_15 rfl (lv_at hl 1 rfl) ?_
        refine lv_iload_n hx hb dX3_hasPunched_16 rfl (lv_at hl 3 rfl) ?_
        refine g_callVi (E' := gE a cI σ) (k0 := 7) (As := [.int x1, .int v3_2]) (rest := []) F hI (c_X3_punchedControl l D a cI F.2.2 σ x1 v3_2) kb_X3_punchedControl ki_X3_punchedControl ks_X3_punchedControl km_X3_72 ⟨Nat.le_of_ble_eq_true rfl, Nat.le_of_ble_eq_true rfl, rfl, rfl⟩ (by decide) gE_7 rfl hl.1 rfl (Nat.le_of_ble_eq_true rfl) ⟨Nat.zero_le _, Nat.zero_le _⟩ dX3_hasPunched_17 (fun H locs hI => ?_)
        refine lv_iload_n hx hb dX3_hasPunched_20 rfl (lv_at hl 2 rfl) ?_
        refine lv_icmp_ne (tgt := 26) hx hb dX3_hasPunched_21 (by decide) (fun c_21 => ?_) (fun c_21 => ?_)
        · have h := (if_neg c_21).symm.trans h
          refine lv_iinc (v := v3_2 + 1) (lv' := [(3, .int (v3_2 + 1)), (0, .ref (a 7)), (1, .int x1), (2, .int x2)]) hx hb dX3_hasPunched_26 hl (k := 3) rfl rfl (by decide) rfl (fun ls hl => ?_)
          refine lv_goto (tgt := 2) hx hb dX3_hasPunched_29 (by decide) ?_
          exact ih2 _ _ _ _ h hI (lv_sub hl [1, 2, 3, 0] rfl)
        · have h := (if_pos c_21).symm.trans h
          refine lv_iconst (v := 1) hx hb dX3_hasPunched_24 (by decide) ?_
          have h := Option.some.inj h
          subst h
          exact hq _ _ _ _ _ (show (1 : Int32) &&& 1 = 1 from by decide) hI dX3_hasPunched_25
  exact L2 _ _ _ _ _ h hI (lv_sub hl [1, 2, 3, 0] rfl)
