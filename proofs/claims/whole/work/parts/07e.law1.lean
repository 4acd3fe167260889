theorem kd_L_cell_ : yL_cell_.cls ≠ "java/lang/invoke/MethodHandle" ∧ yL_cell_.cls ≠ "java/lang/invoke/VarHandle" ∧ (parseMethodDescriptor yL_cell_.desc).map (fun d => d.parameters.length) = some 4 := by decide +kernel
def f_L_case10 (N L : Nat) (xs : Nat → Int32) (i : Int32) (S : lSt) (jn : lSt → Option Int32) : Option Int32 :=
  if i + 1 < 0 ∨ L ≤ (i + 1).toNatClampNeg then none else
  if i + 2 < 0 ∨ L ≤ (i + 2).toNatClampNeg then none else
  (some (f_X9_cell S.1 (xs (i + 1).toNatClampNeg) (xs (i + 2).toNatClampNeg))).bind (fun (q_993 : Nat × Int32 × gSt) =>
  if ¬ (q_993.1 = 0 ∨ q_993.1 = 1) then none else
  if i + 1 < 0 ∨ L ≤ (i + 1).toNatClampNeg then none else
  if i + 2 < 0 ∨ L ≤ (i + 2).toNatClampNeg then none else
  (f_X10_cell N S.2.1 (xs (i + 1).toNatClampNeg) (xs (i + 2).toNatClampNeg)).bind (fun (q_1011 : Int32 × gSt) =>
  if f_X10_thrown q_1011.2 = f_L_cell_ q_993.1 then
    gJoin0 (
        jn (q_993.2.2, q_1011.2, o_L_cell_ q_993.1 q_993.2.1 S.2.2)) (fun j1044 =>
      if f_L_cell_ q_993.1 = 0 then
        if lg_cmp (o_L_cell_ q_993.1 q_993.2.1 S.2.2 0) q_1011.1.toInt64 = 0 then
          j1044
        else
          some 0
      else
        j1044)
  else
    some 0))
set_option maxRecDepth 100000 in
set_option maxHeartbeats 8000000 in
theorem w_L_case10 {p : Program} {e : Env} {s : State} {m : MethodId} {below : List Frame} {meth : Method} {c : Code} {l : Launch} {b L : Nat} {xs : Nat → Int32} {D : va_G} {a : Nat → Nat} {cI cZ cJ : ClassId} {sa : Nat → Nat} {Q : State → Prop} {N : Nat} {i : Int32} {S : lSt} {jn : lSt → Option Int32} {out : Int32} {K SL : Nat} (F : g_LF p l m c s #[Value.ref b] D a cI cZ cJ sa) (hX : va_X b L xs s s.heap) (hbl : b < s.heap.size) (hK : K + 8 ≤ 601024) (hSL : SL + 48 ≤ 7293000)
    (hq : ∀ {S : lSt} (H : Heap) (locs : List Loc) (pc : Nat) (ls : Array Slot) (cl sl : Nat), cl ≤ 601024 → sl ≤ 7293000 → g_LS D a (lE a cI cZ cJ S) s H locs → decode cL_law pc = .ok (.ireturn, 1) → W p l e room_1 s m #[Value.ref b] below meth c H locs cl sl Q (F0 m pc ls [.int out]))
    (J2060 : ∀ {S : lSt} (H : Heap) (locs : List Loc) (ls : Array Slot), True → jn S = some out → g_LS D a (lE a cI cZ cJ S) s H locs → lv_has ls 7 [(0, .ref b), (1, .ref (a 0)), (2, .ref (a 66)), (3, .ref (a 65)), (4, .int i)] → W p l e room_1 s m #[Value.ref b] below meth c H locs (K + 8) (SL + 48) Q (F0 m 2060 ls []))
    (h : f_L_case10 N L xs i S jn = some out) {H : Heap} {locs : List Loc} {ls : Array Slot} (hI : g_LS D a (lE a cI cZ cJ S) s H locs) (hl : lv_has ls 7 [(0, .ref b), (1, .ref (a 0)), (2, .ref (a 66)), (3, .ref (a 65)), (4, .int i)]) : W p l e room_1 s m #[Value.ref b] below meth c H locs K SL Q (F0 m 979 ls []) := by
  have hx := F.1.1
  have hb := F.1.2.1
  have hbA : ¬ (fun q => s.heap.size ≤ q) b := Nat.not_le.mpr hbl
  unfold f_L_case10 at h
  refine lv_aload_n hx hb dL_law_979 rfl (lv_at hl 1 rfl) ?_
  refine lv_aload_n hx hb dL_law_980 rfl (lv_at hl 0 rfl) ?_
  refine lv_iload hx hb dL_law_981 (lv_at hl 4 rfl) ?_
  refine lv_iconst (v := 1) hx hb dL_law_983 (by decide) ?_
  refine lv_iadd hx hb dL_law_984 ?_
  obtain ⟨g_985, h⟩ := g_guard h
  refine va_sld hx hb hX hbl hbA hI.2 g_985 dL_law_985 ?_
  refine lv_aload_n hx hb dL_law_986 rfl (lv_at hl 0 rfl) ?_
  refine lv_iload hx hb dL_law_987 (lv_at hl 4 rfl) ?_
  refine lv_iconst (v := 2) hx hb dL_law_989 (by decide) ?_
  refine lv_iadd hx hb dL_law_990 ?_
  obtain ⟨g_991, h⟩ := g_guard h
  refine va_sld hx hb hX hbl hbA hI.2 g_991 dL_law_991 ?_
  refine lv_aload_n hx hb dL_law_992 rfl (lv_at hl 3 rfl) ?_
  obtain ⟨q_993, e_993, h⟩ := gBind_in h
  obtain ⟨g_993, h⟩ := g_guard h
  refine g_lcW (S := S) (σ' := q_993.2.2) (f' := o_L_cell_ q_993.1 q_993.2.1 S.2.2) (As := [.ref (a 0), .int (xs (i + 1).toNatClampNeg), .int (xs (i + 2).toNatClampNeg), .ref (a 65)]) (rest := []) F hI (c_L_cell_ l D a cI cJ (g_inj_sub (by decide) F.2.2.1) F.2.2.2.2.2.2.2 sa (xs (i + 1).toNatClampNeg) (xs (i + 2).toNatClampNeg) S.1 S.2.2 q_993 (Option.some.inj e_993) (Decidable.not_not.mp g_993)) kh_L_cell_ kn_L kd_L_cell_ kt_L_cell_ km_L_153 ⟨(Nat.le_of_ble_eq_true rfl), (Nat.le_of_ble_eq_true rfl), rfl, rfl⟩ hl.1 rfl (Nat.le_of_ble_eq_true rfl) ⟨(by show _ ≤ 601024; omega), (by show _ ≤ 7293000; omega)⟩ dL_law_993 (fun H locs hI => ?_)
  have hI : g_LS D a (lE a cI cZ cJ (q_993.2.2, S.2.1, o_L_cell_ q_993.1 q_993.2.1 S.2.2)) s H locs := hI
  refine lv_istore (lv' := [(5, .int (f_L_cell_ q_993.1)), (0, .ref b), (1, .ref (a 0)), (2, .ref (a 66)), (3, .ref (a 65)), (4, .int i)]) hx hb dL_law_996 hl (by decide) rfl (fun ls hl => ?_)
  refine lv_aload_n hx hb dL_law_998 rfl (lv_at hl 3 rfl) ?_
  refine lv_aload_n hx hb dL_law_999 rfl (lv_at hl 1 rfl) ?_
  refine lv_iload hx hb dL_law_1000 (lv_at hl 5 rfl) ?_
  refine lv_iconst (v := 1) hx hb dL_law_1002 (by decide) ?_
  refine lv_iadd hx hb dL_law_1003 ?_
  obtain ⟨g_1004, h⟩ := g_guard h
  refine va_sld hx hb hX hbl hbA hI.2 g_1004 dL_law_1004 ?_
  refine lv_aload_n hx hb dL_law_1005 rfl (lv_at hl 1 rfl) ?_
  refine lv_iload hx hb dL_law_1006 (lv_at hl 5 rfl) ?_
  refine lv_iconst (v := 2) hx hb dL_law_1008 (by decide) ?_
  refine lv_iadd hx hb dL_law_1009 ?_
  obtain ⟨g_1010, h⟩ := g_guard h
  refine va_sld hx hb hX hbl hbA hI.2 g_1010 dL_law_1010 ?_
  obtain ⟨q_1011, e_1011, h⟩ := gBind_in h
  refine g_lcM (S := (q_993.2.2, S.2.1, o_L_cell_ q_993.1 q_993.2.1 S.2.2)) (τ' := q_1011.2) (As := [.int (xs (i + 1).toNatClampNeg), .int (xs (i + 2).toNatClampNeg)]) (rest := []) F hI (c_X10_cell l D (fun j => a (66 + j)) cI cZ (g_inj_m F.2.2.1) N S.2.1 (xs (i + 1).toNatClampNeg) (xs (i + 2).toNatClampNeg) q_1011 e_1011) kb_X10_cell ki_X10_cell ks_X10_cell km_L_155 ⟨(Nat.le_of_ble_eq_true rfl), (Nat.le_of_ble_eq_true rfl), rfl, rfl⟩ hl.1 rfl (Nat.le_of_ble_eq_true rfl) ⟨(by show _ ≤ 601024; omega), (by show _ ≤ 7293000; omega)⟩ dL_law_1011 (fun H locs hI => ?_)
  have hI : g_LS D a (lE a cI cZ cJ (q_993.2.2, q_1011.2, o_L_cell_ q_993.1 q_993.2.1 S.2.2)) s H locs := hI
  refine lv_istore (lv' := [(6, .int q_1011.1), (5, .int (f_L_cell_ q_993.1)), (0, .ref b), (1, .ref (a 0)), (2, .ref (a 66)), (3, .ref (a 65)), (4, .int i)]) hx hb dL_law_1014 hl (by decide) rfl (fun ls hl => ?_)
  refine lv_aload_n hx hb dL_law_1016 rfl (lv_at hl 4 rfl) ?_
  refine g_lcM (S := (q_993.2.2, q_1011.2, o_L_cell_ q_993.1 q_993.2.1 S.2.2)) (τ' := q_1011.2) (As := []) (rest := []) F hI (c_X10_thrown l D (fun j => a (66 + j)) cI cZ (g_inj_m F.2.2.1) q_1011.2) kb_X10_thrown ki_X10_thrown ks_X10_thrown km_L_118 ⟨(Nat.le_of_ble_eq_true rfl), (Nat.le_of_ble_eq_true rfl), rfl, rfl⟩ hl.1 rfl (Nat.le_of_ble_eq_true rfl) ⟨(by show _ ≤ 601024; omega), (by show _ ≤ 7293000; omega)⟩ dL_law_1017 (fun H locs hI => ?_)
  have hI : g_LS D a (lE a cI cZ cJ (q_993.2.2, q_1011.2, o_L_cell_ q_993.1 q_993.2.1 S.2.2)) s H locs := hI
  refine lv_iload hx hb dL_law_1020 (lv_at hl 1 rfl) ?_
  refine lv_icmp_eq (tgt := 1027) hx hb dL_law_1022 (by decide) (fun c_1022 => ?_) (fun c_1022 => ?_)
  · have h := (if_pos c_1022).symm.trans h
    refine lv_iload hx hb dL_law_1027 (lv_at hl 1 rfl) ?_
    obtain ⟨j1044, hj1044, h⟩ := gJoin0_in h
    have J1044 : ∀ (H : Heap) (locs : List Loc) (ls : Array Slot), j1044  = some out → g_LS D a (lE a cI cZ cJ (q_993.2.2, q_1011.2, o_L_cell_ q_993.1 q_993.2.1 S.2.2)) s H locs → lv_has ls 7 [(0, .ref b), (1, .ref (a 0)), (2, .ref (a 66)), (3, .ref (a 65)), (4, .int i)] → W p l e room_1 s m #[Value.ref b] below meth c H locs (K + 1) (SL + 6) Q (F0 m 1044 ls []) := by
      intro  H locs ls h hI hl
      rw [hj1044] at h
      refine lv_goto (tgt := 2060) hx hb dL_law_1044 (by decide) ?_
      refine W.widen (k := K + 8) (n := SL + 48) (by omega) (by omega) ?_
      exact J2060 _ _ _ trivial h hI (lv_sub hl [0, 1, 2, 3, 4] rfl)
    refine lv_if_ne (tgt := 1044) hx hb dL_law_1029 (by decide) (fun c_1029 => ?_) (fun c_1029 => ?_)
    · have h := (if_neg c_1029).symm.trans h
      exact J1044 _ _ _ h hI (lv_sub hl [2, 3, 4, 5, 6] rfl)
    · have h := (if_pos c_1029).symm.trans h
      refine lv_aload_n hx hb dL_law_1032 rfl (lv_at hl 5 rfl) ?_
      refine lv_iconst (v := 0) hx hb dL_law_1033 (by decide) ?_
      refine g_llald F hI dL_law_1034 ?_
      refine lv_iload hx hb dL_law_1035 (lv_at hl 0 rfl) ?_
      refine lv_i2l hx hb dL_law_1037 rfl ?_
      refine W.lcmp hx hb dL_law_1038 ?_
      refine lv_if_eq (tgt := 1044) hx hb dL_law_1039 (by decide) (fun c_1039 => ?_) (fun c_1039 => ?_)
      · have h := (if_pos c_1039).symm.trans h
        exact J1044 _ _ _ h hI (lv_sub hl [2, 3, 4, 5, 6] rfl)
      · have h := (if_neg c_1039).symm.trans h
        refine lv_iconst (v := 0) hx hb dL_law_1042 (by decide) ?_
        have h := Option.some.inj h
        subst h
        exact hq _ _ _ _ _ _ (by omega) (by omega) hI dL_law_1043
  · have h := (if_neg c_1022).symm.trans h
    refine lv_iconst (v := 0) hx hb dL_law_1025 (by decide) ?_
    have h := Option.some.inj h
    subst h
    exact hq _ _ _ _ _ _ (by omega) (by omega) hI dL_law_1026
theorem kd_L_lines : yL_lines.cls ≠ "java/lang/invoke/MethodHandle" ∧ yL_lines.cls ≠ "java/lang/invoke/VarHandle" ∧ (parseMethodDescriptor yL_lines.desc).map (fun d => d.parameters.length) = some 3 := by decide +kernel
def f_L_case11 (N L : Nat) (xs : Nat → Int32) (i : Int32) (S : lSt) (jn : lSt → Option Int32) : Option Int32 :=
  if i + 1 < 0 ∨ L ≤ (i + 1).toNatClampNeg then none else
  (f_X9_lines N S.1 (xs (i + 1).toNatClampNeg)).bind (fun (q_1055 : Nat × Int32 × gSt) =>
  if ¬ (q_1055.1 = 0 ∨ q_1055.1 = 2) then none else
  if i + 1 < 0 ∨ L ≤ (i + 1).toNatClampNeg then none else
  (f_X10_lines N S.2.1 (xs (i + 1).toNatClampNeg)).bind (fun (q_1067 : Int32 × gSt) =>
  if f_X10_thrown q_1067.2 = f_L_lines q_1055.1 then
    gJoin0 (
        jn (q_1055.2.2, q_1067.2, o_L_lines q_1055.1 q_1055.2.1 S.2.2)) (fun j1100 =>
      if f_L_lines q_1055.1 = 0 then
        if lg_cmp (o_L_lines q_1055.1 q_1055.2.1 S.2.2 0) q_1067.1.toInt64 = 0 then
          j1100
        else
          some 0
      else
        j1100)
  else
    some 0))
set_option maxRecDepth 100000 in
set_option maxHeartbeats 8000000 in
theorem w_L_case11 {p : Program} {e : Env} {s : State} {m : MethodId} {below : List Frame} {meth : Method} {c : Code} {l : Launch} {b L : Nat} {xs : Nat → Int32} {D : va_G} {a : Nat → Nat} {cI cZ cJ : ClassId} {sa : Nat → Nat} {Q : State → Prop} {N : Nat} {i : Int32} {S : lSt} {jn : lSt → Option Int32} {out : Int32} {K SL : Nat} (F : g_LF p l m c s #[Value.ref b] D a cI cZ cJ sa) (hX : va_X b L xs s s.heap) (hbl : b < s.heap.size) (hK : K + 8 ≤ 601024) (hSL : SL + 48 ≤ 7293000)
    (hq : ∀ {S : lSt} (H : Heap) (locs : List Loc) (pc : Nat) (ls : Array Slot) (cl sl : Nat), cl ≤ 601024 → sl ≤ 7293000 → g_LS D a (lE a cI cZ cJ S) s H locs → decode cL_law pc = .ok (.ireturn, 1) → W p l e room_1 s m #[Value.ref b] below meth c H locs cl sl Q (F0 m pc ls [.int out]))
    (J2060 : ∀ {S : lSt} (H : Heap) (locs : List Loc) (ls : Array Slot), True → jn S = some out → g_LS D a (lE a cI cZ cJ S) s H locs → lv_has ls 7 [(0, .ref b), (1, .ref (a 0)), (2, .ref (a 66)), (3, .ref (a 65)), (4, .int i)] → W p l e room_1 s m #[Value.ref b] below meth c H locs (K + 8) (SL + 48) Q (F0 m 2060 ls []))
    (h : f_L_case11 N L xs i S jn = some out) {H : Heap} {locs : List Loc} {ls : Array Slot} (hI : g_LS D a (lE a cI cZ cJ S) s H locs) (hl : lv_has ls 7 [(0, .ref b), (1, .ref (a 0)), (2, .ref (a 66)), (3, .ref (a 65)), (4, .int i)]) : W p l e room_1 s m #[Value.ref b] below meth c H locs K SL Q (F0 m 1047 ls []) := by
  have hx := F.1.1
  have hb := F.1.2.1
  have hbA : ¬ (fun q => s.heap.size ≤ q) b := Nat.not_le.mpr hbl
  unfold f_L_case11 at h
  refine lv_aload_n hx hb dL_law_1047 rfl (lv_at hl 1 rfl) ?_
  refine lv_aload_n hx hb dL_law_1048 rfl (lv_at hl 0 rfl) ?_
  refine lv_iload hx hb dL_law_1049 (lv_at hl 4 rfl) ?_
  refine lv_iconst (v := 1) hx hb dL_law_1051 (by decide) ?_
  refine lv_iadd hx hb dL_law_1052 ?_
  obtain ⟨g_1053, h⟩ := g_guard h
  refine va_sld hx hb hX hbl hbA hI.2 g_1053 dL_law_1053 ?_
  refine lv_aload_n hx hb dL_law_1054 rfl (lv_at hl 3 rfl) ?_
  obtain ⟨q_1055, e_1055, h⟩ := gBind_in h
  obtain ⟨g_1055, h⟩ := g_guard h
  refine g_lcW (S := S) (σ' := q_1055.2.2) (f' := o_L_lines q_1055.1 q_1055.2.1 S.2.2) (As := [.ref (a 0), .int (xs (i + 1).toNatClampNeg), .ref (a 65)]) (rest := []) F hI (c_L_lines l D a cI cJ (g_inj_sub (by decide) F.2.2.1) F.2.2.2.2.2.2.2 sa N (xs (i + 1).toNatClampNeg) S.1 S.2.2 q_1055 e_1055 (Decidable.not_not.mp g_1055)) kh_L_lines kn_L kd_L_lines kt_L_lines km_L_156 ⟨(Nat.le_of_ble_eq_true rfl), (Nat.le_of_ble_eq_true rfl), rfl, rfl⟩ hl.1 rfl (Nat.le_of_ble_eq_true rfl) ⟨(by show _ ≤ 601024; omega), (by show _ ≤ 7293000; omega)⟩ dL_law_1055 (fun H locs hI => ?_)
  have hI : g_LS D a (lE a cI cZ cJ (q_1055.2.2, S.2.1, o_L_lines q_1055.1 q_1055.2.1 S.2.2)) s H locs := hI
  refine lv_istore (lv' := [(5, .int (f_L_lines q_1055.1)), (0, .ref b), (1, .ref (a 0)), (2, .ref (a 66)), (3, .ref (a 65)), (4, .int i)]) hx hb dL_law_1058 hl (by decide) rfl (fun ls hl => ?_)
  refine lv_aload_n hx hb dL_law_1060 rfl (lv_at hl 3 rfl) ?_
  refine lv_aload_n hx hb dL_law_1061 rfl (lv_at hl 1 rfl) ?_
  refine lv_iload hx hb dL_law_1062 (lv_at hl 5 rfl) ?_
  refine lv_iconst (v := 1) hx hb dL_law_1064 (by decide) ?_
  refine lv_iadd hx hb dL_law_1065 ?_
  obtain ⟨g_1066, h⟩ := g_guard h
  refine va_sld hx hb hX hbl hbA hI.2 g_1066 dL_law_1066 ?_
  obtain ⟨q_1067, e_1067, h⟩ := gBind_in h
  refine g_lcM (S := (q_1055.2.2, S.2.1, o_L_lines q_1055.1 q_1055.2.1 S.2.2)) (τ' := q_1067.2) (As := [.int (xs (i + 1).toNatClampNeg)]) (rest := []) F hI (c_X10_lines l D (fun j => a (66 + j)) cI cZ (g_inj_m F.2.2.1) N S.2.1 (xs (i + 1).toNatClampNeg) q_1067 e_1067) kb_X10_lines ki_X10_lines ks_X10_lines km_L_159 ⟨(Nat.le_of_ble_eq_true rfl), (Nat.le_of_ble_eq_true rfl), rfl, rfl⟩ hl.1 rfl (Nat.le_of_ble_eq_true rfl) ⟨(by show _ ≤ 601024; omega), (by show _ ≤ 7293000; omega)⟩ dL_law_1067 (fun H locs hI => ?_)
  have hI : g_LS D a (lE a cI cZ cJ (q_1055.2.2, q_1067.2, o_L_lines q_1055.1 q_1055.2.1 S.2.2)) s H locs := hI
  refine lv_istore (lv' := [(6, .int q_1067.1), (5, .int (f_L_lines q_1055.1)), (0, .ref b), (1, .ref (a 0)), (2, .ref (a 66)), (3, .ref (a 65)), (4, .int i)]) hx hb dL_law_1070 hl (by decide) rfl (fun ls hl => ?_)
  refine lv_aload_n hx hb dL_law_1072 rfl (lv_at hl 4 rfl) ?_
  refine g_lcM (S := (q_1055.2.2, q_1067.2, o_L_lines q_1055.1 q_1055.2.1 S.2.2)) (τ' := q_1067.2) (As := []) (rest := []) F hI (c_X10_thrown l D (fun j => a (66 + j)) cI cZ (g_inj_m F.2.2.1) q_1067.2) kb_X10_thrown ki_X10_thrown ks_X10_thrown km_L_118 ⟨(Nat.le_of_ble_eq_true rfl), (Nat.le_of_ble_eq_true rfl), rfl, rfl⟩ hl.1 rfl (Nat.le_of_ble_eq_true rfl) ⟨(by show _ ≤ 601024; omega), (by show _ ≤ 7293000; omega)⟩ dL_law_1073 (fun H locs hI => ?_)
  have hI : g_LS D a (lE a cI cZ cJ (q_1055.2.2, q_1067.2, o_L_lines q_1055.1 q_1055.2.1 S.2.2)) s H locs := hI
  refine lv_iload hx hb dL_law_1076 (lv_at hl 1 rfl) ?_
  refine lv_icmp_eq (tgt := 1083) hx hb dL_law_1078 (by decide) (fun c_1078 => ?_) (fun c_1078 => ?_)
  · have h := (if_pos c_1078).symm.trans h
    refine lv_iload hx hb dL_law_1083 (lv_at hl 1 rfl) ?_
    obtain ⟨j1100, hj1100, h⟩ := gJoin0_in h
    have J1100 : ∀ (H : Heap) (locs : List Loc) (ls : Array Slot), j1100  = some out → g_LS D a (lE a cI cZ cJ (q_1055.2.2, q_1067.2, o_L_lines q_1055.1 q_1055.2.1 S.2.2)) s H locs → lv_has ls 7 [(0, .ref b), (1, .ref (a 0)), (2, .ref (a 66)), (3, .ref (a 65)), (4, .int i)] → W p l e room_1 s m #[Value.ref b] below meth c H locs (K + 1) (SL + 6) Q (F0 m 1100 ls []) := by
      intro  H locs ls h hI hl
      rw [hj1100] at h
      refine lv_goto (tgt := 2060) hx hb dL_law_1100 (by decide) ?_
      refine W.widen (k := K + 8) (n := SL + 48) (by omega) (by omega) ?_
      exact J2060 _ _ _ trivial h hI (lv_sub hl [0, 1, 2, 3, 4] rfl)
    refine lv_if_ne (tgt := 1100) hx hb dL_law_1085 (by decide) (fun c_1085 => ?_) (fun c_1085 => ?_)
    · have h := (if_neg c_1085).symm.trans h
      exact J1100 _ _ _ h hI (lv_sub hl [2, 3, 4, 5, 6] rfl)
    · have h := (if_pos c_1085).symm.trans h
      refine lv_aload_n hx hb dL_law_1088 rfl (lv_at hl 5 rfl) ?_
      refine lv_iconst (v := 0) hx hb dL_law_1089 (by decide) ?_
      refine g_llald F hI dL_law_1090 ?_
      refine lv_iload hx hb dL_law_1091 (lv_at hl 0 rfl) ?_
      refine lv_i2l hx hb dL_law_1093 rfl ?_
      refine W.lcmp hx hb dL_law_1094 ?_
      refine lv_if_eq (tgt := 1100) hx hb dL_law_1095 (by decide) (fun c_1095 => ?_) (fun c_1095 => ?_)
      · have h := (if_pos c_1095).symm.trans h
        exact J1100 _ _ _ h hI (lv_sub hl [2, 3, 4, 5, 6] rfl)
      · have h := (if_neg c_1095).symm.trans h
        refine lv_iconst (v := 0) hx hb dL_law_1098 (by decide) ?_
        have h := Option.some.inj h
        subst h
        exact hq _ _ _ _ _ _ (by omega) (by omega) hI dL_law_1099
  · have h := (if_neg c_1078).symm.trans h
    refine lv_iconst (v := 0) hx hb dL_law_1081 (by decide) ?_
    have h := Option.some.inj h
    subst h
    exact hq _ _ _ _ _ _ (by omega) (by omega) hI dL_law_1082
theorem kd_L_rings : yL_rings.cls ≠ "java/lang/invoke/MethodHandle" ∧ yL_rings.cls ≠ "java/lang/invoke/VarHandle" ∧ (parseMethodDescriptor yL_rings.desc).map (fun d => d.parameters.length) = some 3 := by decide +kernel
def f_L_case12 (N L : Nat) (xs : Nat → Int32) (i : Int32) (S : lSt) (jn : lSt → Option Int32) : Option Int32 :=
  if i + 1 < 0 ∨ L ≤ (i + 1).toNatClampNeg then none else
  (f_X9_rings N S.1 (xs (i + 1).toNatClampNeg)).bind (fun (q_1111 : Nat × Int32 × gSt) =>
  if ¬ (q_1111.1 = 0 ∨ q_1111.1 = 2) then none else
  if i + 1 < 0 ∨ L ≤ (i + 1).toNatClampNeg then none else
  (f_X10_rings N S.2.1 (xs (i + 1).toNatClampNeg)).bind (fun (q_1123 : Int32 × gSt) =>
  if f_X10_thrown q_1123.2 = f_L_rings q_1111.1 then
    gJoin0 (
        jn (q_1111.2.2, q_1123.2, o_L_rings q_1111.1 q_1111.2.1 S.2.2)) (fun j1156 =>
      if f_L_rings q_1111.1 = 0 then
        if lg_cmp (o_L_rings q_1111.1 q_1111.2.1 S.2.2 0) q_1123.1.toInt64 = 0 then
          j1156
        else
          some 0
      else
        j1156)
  else
    some 0))
set_option maxRecDepth 100000 in
set_option maxHeartbeats 8000000 in
theorem w_L_case12 {p : Program} {e : Env} {s : State} {m : MethodId} {below : List Frame} {meth : Method} {c : Code} {l : Launch} {b L : Nat} {xs : Nat → Int32} {D : va_G} {a : Nat → Nat} {cI cZ cJ : ClassId} {sa : Nat → Nat} {Q : State → Prop} {N : Nat} {i : Int32} {S : lSt} {jn : lSt → Option Int32} {out : Int32} {K SL : Nat} (F : g_LF p l m c s #[Value.ref b] D a cI cZ cJ sa) (hX : va_X b L xs s s.heap) (hbl : b < s.heap.size) (hK : K + 8 ≤ 601024) (hSL : SL + 48 ≤ 7293000)
    (hq : ∀ {S : lSt} (H : Heap) (locs : List Loc) (pc : Nat) (ls : Array Slot) (cl sl : Nat), cl ≤ 601024 → sl ≤ 7293000 → g_LS D a (lE a cI cZ cJ S) s H locs → decode cL_law pc = .ok (.ireturn, 1) → W p l e room_1 s m #[Value.ref b] below meth c H locs cl sl Q (F0 m pc ls [.int out]))
    (J2060 : ∀ {S : lSt} (H : Heap) (locs : List Loc) (ls : Array Slot), True → jn S = some out → g_LS D a (lE a cI cZ cJ S) s H locs → lv_has ls 7 [(0, .ref b), (1, .ref (a 0)), (2, .ref (a 66)), (3, .ref (a 65)), (4, .int i)] → W p l e room_1 s m #[Value.ref b] below meth c H locs (K + 8) (SL + 48) Q (F0 m 2060 ls []))
    (h : f_L_case12 N L xs i S jn = some out) {H : Heap} {locs : List Loc} {ls : Array Slot} (hI : g_LS D a (lE a cI cZ cJ S) s H locs) (hl : lv_has ls 7 [(0, .ref b), (1, .ref (a 0)), (2, .ref (a 66)), (3, .ref (a 65)), (4, .int i)]) : W p l e room_1 s m #[Value.ref b] below meth c H locs K SL Q (F0 m 1103 ls []) := by
  have hx := F.1.1
  have hb := F.1.2.1
  have hbA : ¬ (fun q => s.heap.size ≤ q) b := Nat.not_le.mpr hbl
  unfold f_L_case12 at h
  refine lv_aload_n hx hb dL_law_1103 rfl (lv_at hl 1 rfl) ?_
  refine lv_aload_n hx hb dL_law_1104 rfl (lv_at hl 0 rfl) ?_
  refine lv_iload hx hb dL_law_1105 (lv_at hl 4 rfl) ?_
  refine lv_iconst (v := 1) hx hb dL_law_1107 (by decide) ?_
  refine lv_iadd hx hb dL_law_1108 ?_
  obtain ⟨g_1109, h⟩ := g_guard h
  refine va_sld hx hb hX hbl hbA hI.2 g_1109 dL_law_1109 ?_
  refine lv_aload_n hx hb dL_law_1110 rfl (lv_at hl 3 rfl) ?_
  obtain ⟨q_1111, e_1111, h⟩ := gBind_in h
  obtain ⟨g_1111, h⟩ := g_guard h
  refine g_lcW (S := S) (σ' := q_1111.2.2) (f' := o_L_rings q_1111.1 q_1111.2.1 S.2.2) (As := [.ref (a 0), .int (xs (i + 1).toNatClampNeg), .ref (a 65)]) (rest := []) F hI (c_L_rings l D a cI cJ (g_inj_sub (by decide) F.2.2.1) F.2.2.2.2.2.2.2 sa N (xs (i + 1).toNatClampNeg) S.1 S.2.2 q_1111 e_1111 (Decidable.not_not.mp g_1111)) kh_L_rings kn_L kd_L_rings kt_L_rings km_L_160 ⟨(Nat.le_of_ble_eq_true rfl), (Nat.le_of_ble_eq_true rfl), rfl, rfl⟩ hl.1 rfl (Nat.le_of_ble_eq_true rfl) ⟨(by show _ ≤ 601024; omega), (by show _ ≤ 7293000; omega)⟩ dL_law_1111 (fun H locs hI => ?_)
  have hI : g_LS D a (lE a cI cZ cJ (q_1111.2.2, S.2.1, o_L_rings q_1111.1 q_1111.2.1 S.2.2)) s H locs := hI
  refine lv_istore (lv' := [(5, .int (f_L_rings q_1111.1)), (0, .ref b), (1, .ref (a 0)), (2, .ref (a 66)), (3, .ref (a 65)), (4, .int i)]) hx hb dL_law_1114 hl (by decide) rfl (fun ls hl => ?_)
  refine lv_aload_n hx hb dL_law_1116 rfl (lv_at hl 3 rfl) ?_
  refine lv_aload_n hx hb dL_law_1117 rfl (lv_at hl 1 rfl) ?_
  refine lv_iload hx hb dL_law_1118 (lv_at hl 5 rfl) ?_
  refine lv_iconst (v := 1) hx hb dL_law_1120 (by decide) ?_
  refine lv_iadd hx hb dL_law_1121 ?_
  obtain ⟨g_1122, h⟩ := g_guard h
  refine va_sld hx hb hX hbl hbA hI.2 g_1122 dL_law_1122 ?_
  obtain ⟨q_1123, e_1123, h⟩ := gBind_in h
  refine g_lcM (S := (q_1111.2.2, S.2.1, o_L_rings q_1111.1 q_1111.2.1 S.2.2)) (τ' := q_1123.2) (As := [.int (xs (i + 1).toNatClampNeg)]) (rest := []) F hI (c_X10_rings l D (fun j => a (66 + j)) cI cZ (g_inj_m F.2.2.1) N S.2.1 (xs (i + 1).toNatClampNeg) q_1123 e_1123) kb_X10_rings ki_X10_rings ks_X10_rings km_L_162 ⟨(Nat.le_of_ble_eq_true rfl), (Nat.le_of_ble_eq_true rfl), rfl, rfl⟩ hl.1 rfl (Nat.le_of_ble_eq_true rfl) ⟨(by show _ ≤ 601024; omega), (by show _ ≤ 7293000; omega)⟩ dL_law_1123 (fun H locs hI => ?_)
  have hI : g_LS D a (lE a cI cZ cJ (q_1111.2.2, q_1123.2, o_L_rings q_1111.1 q_1111.2.1 S.2.2)) s H locs := hI
  refine lv_istore (lv' := [(6, .int q_1123.1), (5, .int (f_L_rings q_1111.1)), (0, .ref b), (1, .ref (a 0)), (2, .ref (a 66)), (3, .ref (a 65)), (4, .int i)]) hx hb dL_law_1126 hl (by decide) rfl (fun ls hl => ?_)
  refine lv_aload_n hx hb dL_law_1128 rfl (lv_at hl 4 rfl) ?_
  refine g_lcM (S := (q_1111.2.2, q_1123.2, o_L_rings q_1111.1 q_1111.2.1 S.2.2)) (τ' := q_1123.2) (As := []) (rest := []) F hI (c_X10_thrown l D (fun j => a (66 + j)) cI cZ (g_inj_m F.2.2.1) q_1123.2) kb_X10_thrown ki_X10_thrown ks_X10_thrown km_L_118 ⟨(Nat.le_of_ble_eq_true rfl), (Nat.le_of_ble_eq_true rfl), rfl, rfl⟩ hl.1 rfl (Nat.le_of_ble_eq_true rfl) ⟨(by show _ ≤ 601024; omega), (by show _ ≤ 7293000; omega)⟩ dL_law_1129 (fun H locs hI => ?_)
  have hI : g_LS D a (lE a cI cZ cJ (q_1111.2.2, q_1123.2, o_L_rings q_1111.1 q_1111.2.1 S.2.2)) s H locs := hI
  refine lv_iload hx hb dL_law_1132 (lv_at hl 1 rfl) ?_
  refine lv_icmp_eq (tgt := 1139) hx hb dL_law_1134 (by decide) (fun c_1134 => ?_) (fun c_1134 => ?_)
  · have h := (if_pos c_1134).symm.trans h
    refine lv_iload hx hb dL_law_1139 (lv_at hl 1 rfl) ?_
    obtain ⟨j1156, hj1156, h⟩ := gJoin0_in h
    have J1156 : ∀ (H : Heap) (locs : List Loc) (ls : Array Slot), j1156  = some out → g_LS D a (lE a cI cZ cJ (q_1111.2.2, q_1123.2, o_L_rings q_1111.1 q_1111.2.1 S.2.2)) s H locs → lv_has ls 7 [(0, .ref b), (1, .ref (a 0)), (2, .ref (a 66)), (3, .ref (a 65)), (4, .int i)] → W p l e room_1 s m #[Value.ref b] below meth c H locs (K + 1) (SL + 6) Q (F0 m 1156 ls []) := by
      intro  H locs ls h hI hl
      rw [hj1156] at h
      refine lv_goto (tgt := 2060) hx hb dL_law_1156 (by decide) ?_
      refine W.widen (k := K + 8) (n := SL + 48) (by omega) (by omega) ?_
      exact J2060 _ _ _ trivial h hI (lv_sub hl [0, 1, 2, 3, 4] rfl)
    refine lv_if_ne (tgt := 1156) hx hb dL_law_1141 (by decide) (fun c_1141 => ?_) (fun c_1141 => ?_)
    · have h := (if_neg c_1141).symm.trans h
      exact J1156 _ _ _ h hI (lv_sub hl [2, 3, 4, 5, 6] rfl)
    · have h := (if_pos c_1141).symm.trans h
      refine lv_aload_n hx hb dL_law_1144 rfl (lv_at hl 5 rfl) ?_
      refine lv_iconst (v := 0) hx hb dL_law_1145 (by decide) ?_
      refine g_llald F hI dL_law_1146 ?_
      refine lv_iload hx hb dL_law_1147 (lv_at hl 0 rfl) ?_
      refine lv_i2l hx hb dL_law_1149 rfl ?_
      refine W.lcmp hx hb dL_law_1150 ?_
      refine lv_if_eq (tgt := 1156) hx hb dL_law_1151 (by decide) (fun c_1151 => ?_) (fun c_1151 => ?_)
      · have h := (if_pos c_1151).symm.trans h
        exact J1156 _ _ _ h hI (lv_sub hl [2, 3, 4, 5, 6] rfl)
      · have h := (if_neg c_1151).symm.trans h
        refine lv_iconst (v := 0) hx hb dL_law_1154 (by decide) ?_
        have h := Option.some.inj h
        subst h
        exact hq _ _ _ _ _ _ (by omega) (by omega) hI dL_law_1155
  · have h := (if_neg c_1134).symm.trans h
    refine lv_iconst (v := 0) hx hb dL_law_1137 (by decide) ?_
    have h := Option.some.inj h
    subst h
    exact hq _ _ _ _ _ _ (by omega) (by omega) hI dL_law_1138
theorem kd_L_longest : yL_longest.cls ≠ "java/lang/invoke/MethodHandle" ∧ yL_longest.cls ≠ "java/lang/invoke/VarHandle" ∧ (parseMethodDescriptor yL_longest.desc).map (fun d => d.parameters.length) = some 3 := by decide +kernel
def f_L_case13 (N L : Nat) (xs : Nat → Int32) (i : Int32) (S : lSt) (jn : lSt → Option Int32) : Option Int32 :=
  if i + 1 < 0 ∨ L ≤ (i + 1).toNatClampNeg then none else
  (f_X9_longest N S.1 (xs (i + 1).toNatClampNeg)).bind (fun (q_1167 : Nat × Int32 × gSt) =>
  if ¬ (q_1167.1 = 0 ∨ q_1167.1 = 2) then none else
  if i + 1 < 0 ∨ L ≤ (i + 1).toNatClampNeg then none else
  (f_X10_longest N S.2.1 (xs (i + 1).toNatClampNeg)).bind (fun (q_1179 : Int32 × gSt) =>
  if f_X10_thrown q_1179.2 = f_L_longest q_1167.1 then
    gJoin0 (
        jn (q_1167.2.2, q_1179.2, o_L_longest q_1167.1 q_1167.2.1 S.2.2)) (fun j1212 =>
      if f_L_longest q_1167.1 = 0 then
        if lg_cmp (o_L_longest q_1167.1 q_1167.2.1 S.2.2 0) q_1179.1.toInt64 = 0 then
          j1212
        else
          some 0
      else
        j1212)
  else
    some 0))
set_option maxRecDepth 100000 in
set_option maxHeartbeats 8000000 in
theorem w_L_case13 {p : Program} {e : Env} {s : State} {m : MethodId} {below : List Frame} {meth : Method} {c : Code} {l : Launch} {b L : Nat} {xs : Nat → Int32} {D : va_G} {a : Nat → Nat} {cI cZ cJ : ClassId} {sa : Nat → Nat} {Q : State → Prop} {N : Nat} {i : Int32} {S : lSt} {jn : lSt → Option Int32} {out : Int32} {K SL : Nat} (F : g_LF p l m c s #[Value.ref b] D a cI cZ cJ sa) (hX : va_X b L xs s s.heap) (hbl : b < s.heap.size) (hK : K + 8 ≤ 601024) (hSL : SL + 48 ≤ 7293000)
    (hq : ∀ {S : lSt} (H : Heap) (locs : List Loc) (pc : Nat) (ls : Array Slot) (cl sl : Nat), cl ≤ 601024 → sl ≤ 7293000 → g_LS D a (lE a cI cZ cJ S) s H locs → decode cL_law pc = .ok (.ireturn, 1) → W p l e room_1 s m #[Value.ref b] below meth c H locs cl sl Q (F0 m pc ls [.int out]))
    (J2060 : ∀ {S : lSt} (H : Heap) (locs : List Loc) (ls : Array Slot), True → jn S = some out → g_LS D a (lE a cI cZ cJ S) s H locs → lv_has ls 7 [(0, .ref b), (1, .ref (a 0)), (2, .ref (a 66)), (3, .ref (a 65)), (4, .int i)] → W p l e room_1 s m #[Value.ref b] below meth c H locs (K + 8) (SL + 48) Q (F0 m 2060 ls []))
    (h : f_L_case13 N L xs i S jn = some out) {H : Heap} {locs : List Loc} {ls : Array Slot} (hI : g_LS D a (lE a cI cZ cJ S) s H locs) (hl : lv_has ls 7 [(0, .ref b), (1, .ref (a 0)), (2, .ref (a 66)), (3, .ref (a 65)), (4, .int i)]) : W p l e room_1 s m #[Value.ref b] below meth c H locs K SL Q (F0 m 1159 ls []) := by
  have hx := F.1.1
  have hb := F.1.2.1
  have hbA : ¬ (fun q => s.heap.size ≤ q) b := Nat.not_le.mpr hbl
  unfold f_L_case13 at h
  refine lv_aload_n hx hb dL_law_1159 rfl (lv_at hl 1 rfl) ?_
  refine lv_aload_n hx hb dL_law_1160 rfl (lv_at hl 0 rfl) ?_
  refine lv_iload hx hb dL_law_1161 (lv_at hl 4 rfl) ?_
  refine lv_iconst (v := 1) hx hb dL_law_1163 (by decide) ?_
  refine lv_iadd hx hb dL_law_1164 ?_
  obtain ⟨g_1165, h⟩ := g_guard h
  refine va_sld hx hb hX hbl hbA hI.2 g_1165 dL_law_1165 ?_
  refine lv_aload_n hx hb dL_law_1166 rfl (lv_at hl 3 rfl) ?_
  obtain ⟨q_1167, e_1167, h⟩ := gBind_in h
  obtain ⟨g_1167, h⟩ := g_guard h
  refine g_lcW (S := S) (σ' := q_1167.2.2) (f' := o_L_longest q_1167.1 q_1167.2.1 S.2.2) (As := [.ref (a 0), .int (xs (i + 1).toNatClampNeg), .ref (a 65)]) (rest := []) F hI (c_L_longest l D a cI cJ (g_inj_sub (by decide) F.2.2.1) F.2.2.2.2.2.2.2 sa N (xs (i + 1).toNatClampNeg) S.1 S.2.2 q_1167 e_1167 (Decidable.not_not.mp g_1167)) kh_L_longest kn_L kd_L_longest kt_L_longest km_L_163 ⟨(Nat.le_of_ble_eq_true rfl), (Nat.le_of_ble_eq_true rfl), rfl, rfl⟩ hl.1 rfl (Nat.le_of_ble_eq_true rfl) ⟨(by show _ ≤ 601024; omega), (by show _ ≤ 7293000; omega)⟩ dL_law_1167 (fun H locs hI => ?_)
  have hI : g_LS D a (lE a cI cZ cJ (q_1167.2.2, S.2.1, o_L_longest q_1167.1 q_1167.2.1 S.2.2)) s H locs := hI
  refine lv_istore (lv' := [(5, .int (f_L_longest q_1167.1)), (0, .ref b), (1, .ref (a 0)), (2, .ref (a 66)), (3, .ref (a 65)), (4, .int i)]) hx hb dL_law_1170 hl (by decide) rfl (fun ls hl => ?_)
  refine lv_aload_n hx hb dL_law_1172 rfl (lv_at hl 3 rfl) ?_
  refine lv_aload_n hx hb dL_law_1173 rfl (lv_at hl 1 rfl) ?_
  refine lv_iload hx hb dL_law_1174 (lv_at hl 5 rfl) ?_
  refine lv_iconst (v := 1) hx hb dL_law_1176 (by decide) ?_
  refine lv_iadd hx hb dL_law_1177 ?_
  obtain ⟨g_1178, h⟩ := g_guard h
  refine va_sld hx hb hX hbl hbA hI.2 g_1178 dL_law_1178 ?_
  obtain ⟨q_1179, e_1179, h⟩ := gBind_in h
  refine g_lcM (S := (q_1167.2.2, S.2.1, o_L_longest q_1167.1 q_1167.2.1 S.2.2)) (τ' := q_1179.2) (As := [.int (xs (i + 1).toNatClampNeg)]) (rest := []) F hI (c_X10_longest l D (fun j => a (66 + j)) cI cZ (g_inj_m F.2.2.1) N S.2.1 (xs (i + 1).toNatClampNeg) q_1179 e_1179) kb_X10_longest ki_X10_longest ks_X10_longest km_L_165 ⟨(Nat.le_of_ble_eq_true rfl), (Nat.le_of_ble_eq_true rfl), rfl, rfl⟩ hl.1 rfl (Nat.le_of_ble_eq_true rfl) ⟨(by show _ ≤ 601024; omega), (by show _ ≤ 7293000; omega)⟩ dL_law_1179 (fun H locs hI => ?_)
  have hI : g_LS D a (lE a cI cZ cJ (q_1167.2.2, q_1179.2, o_L_longest q_1167.1 q_1167.2.1 S.2.2)) s H locs := hI
  refine lv_istore (lv' := [(6, .int q_1179.1), (5, .int (f_L_longest q_1167.1)), (0, .ref b), (1, .ref (a 0)), (2, .ref (a 66)), (3, .ref (a 65)), (4, .int i)]) hx hb dL_law_1182 hl (by decide) rfl (fun ls hl => ?_)
  refine lv_aload_n hx hb dL_law_1184 rfl (lv_at hl 4 rfl) ?_
  refine g_lcM (S := (q_1167.2.2, q_1179.2, o_L_longest q_1167.1 q_1167.2.1 S.2.2)) (τ' := q_1179.2) (As := []) (rest := []) F hI (c_X10_thrown l D (fun j => a (66 + j)) cI cZ (g_inj_m F.2.2.1) q_1179.2) kb_X10_thrown ki_X10_thrown ks_X10_thrown km_L_118 ⟨(Nat.le_of_ble_eq_true rfl), (Nat.le_of_ble_eq_true rfl), rfl, rfl⟩ hl.1 rfl (Nat.le_of_ble_eq_true rfl) ⟨(by show _ ≤ 601024; omega), (by show _ ≤ 7293000; omega)⟩ dL_law_1185 (fun H locs hI => ?_)
  have hI : g_LS D a (lE a cI cZ cJ (q_1167.2.2, q_1179.2, o_L_longest q_1167.1 q_1167.2.1 S.2.2)) s H locs := hI
  refine lv_iload hx hb dL_law_1188 (lv_at hl 1 rfl) ?_
  refine lv_icmp_eq (tgt := 1195) hx hb dL_law_1190 (by decide) (fun c_1190 => ?_) (fun c_1190 => ?_)
  · have h := (if_pos c_1190).symm.trans h
    refine lv_iload hx hb dL_law_1195 (lv_at hl 1 rfl) ?_
    obtain ⟨j1212, hj1212, h⟩ := gJoin0_in h
    have J1212 : ∀ (H : Heap) (locs : List Loc) (ls : Array Slot), j1212  = some out → g_LS D a (lE a cI cZ cJ (q_1167.2.2, q_1179.2, o_L_longest q_1167.1 q_1167.2.1 S.2.2)) s H locs → lv_has ls 7 [(0, .ref b), (1, .ref (a 0)), (2, .ref (a 66)), (3, .ref (a 65)), (4, .int i)] → W p l e room_1 s m #[Value.ref b] below meth c H locs (K + 1) (SL + 6) Q (F0 m 1212 ls []) := by
      intro  H locs ls h hI hl
      rw [hj1212] at h
      refine lv_goto (tgt := 2060) hx hb dL_law_1212 (by decide) ?_
      refine W.widen (k := K + 8) (n := SL + 48) (by omega) (by omega) ?_
      exact J2060 _ _ _ trivial h hI (lv_sub hl [0, 1, 2, 3, 4] rfl)
    refine lv_if_ne (tgt := 1212) hx hb dL_law_1197 (by decide) (fun c_1197 => ?_) (fun c_1197 => ?_)
    · have h := (if_neg c_1197).symm.trans h
      exact J1212 _ _ _ h hI (lv_sub hl [2, 3, 4, 5, 6] rfl)
    · have h := (if_pos c_1197).symm.trans h
      refine lv_aload_n hx hb dL_law_1200 rfl (lv_at hl 5 rfl) ?_
      refine lv_iconst (v := 0) hx hb dL_law_1201 (by decide) ?_
      refine g_llald F hI dL_law_1202 ?_
      refine lv_iload hx hb dL_law_1203 (lv_at hl 0 rfl) ?_
      refine lv_i2l hx hb dL_law_1205 rfl ?_
      refine W.lcmp hx hb dL_law_1206 ?_
      refine lv_if_eq (tgt := 1212) hx hb dL_law_1207 (by decide) (fun c_1207 => ?_) (fun c_1207 => ?_)
      · have h := (if_pos c_1207).symm.trans h
        exact J1212 _ _ _ h hI (lv_sub hl [2, 3, 4, 5, 6] rfl)
      · have h := (if_neg c_1207).symm.trans h
        refine lv_iconst (v := 0) hx hb dL_law_1210 (by decide) ?_
        have h := Option.some.inj h
        subst h
        exact hq _ _ _ _ _ _ (by omega) (by omega) hI dL_law_1211
  · have h := (if_neg c_1190).symm.trans h
    refine lv_iconst (v := 0) hx hb dL_law_1193 (by decide) ?_
    have h := Option.some.inj h
    subst h
    exact hq _ _ _ _ _ _ (by omega) (by omega) hI dL_law_1194
theorem kd_L_cost : yL_cost.cls ≠ "java/lang/invoke/MethodHandle" ∧ yL_cost.cls ≠ "java/lang/invoke/VarHandle" ∧ (parseMethodDescriptor yL_cost.desc).map (fun d => d.parameters.length) = some 4 := by decide +kernel
def f_L_case14 (N L : Nat) (xs : Nat → Int32) (i : Int32) (S : lSt) (jn : lSt → Option Int32) : Option Int32 :=
  if i + 1 < 0 ∨ L ≤ (i + 1).toNatClampNeg then none else
  if i + 2 < 0 ∨ L ≤ (i + 2).toNatClampNeg then none else
  (f_X9_cost N S.1 (xs (i + 1).toNatClampNeg) (xs (i + 2).toNatClampNeg)).bind (fun (q_1229 : Nat × Int32 × gSt) =>
  if ¬ (q_1229.1 = 0 ∨ q_1229.1 = 1) then none else
  if i + 1 < 0 ∨ L ≤ (i + 1).toNatClampNeg then none else
  if i + 2 < 0 ∨ L ≤ (i + 2).toNatClampNeg then none else
  (f_X10_cost N S.2.1 (xs (i + 1).toNatClampNeg) (xs (i + 2).toNatClampNeg)).bind (fun (q_1247 : Int32 × gSt) =>
  if f_X10_thrown q_1247.2 = f_L_cost q_1229.1 then
    gJoin0 (
        jn (q_1229.2.2, q_1247.2, o_L_cost q_1229.1 q_1229.2.1 S.2.2)) (fun j1280 =>
      if f_L_cost q_1229.1 = 0 then
        if lg_cmp (o_L_cost q_1229.1 q_1229.2.1 S.2.2 0) q_1247.1.toInt64 = 0 then
          j1280
        else
          some 0
      else
        j1280)
  else
    some 0))
set_option maxRecDepth 100000 in
set_option maxHeartbeats 8000000 in
theorem w_L_case14 {p : Program} {e : Env} {s : State} {m : MethodId} {below : List Frame} {meth : Method} {c : Code} {l : Launch} {b L : Nat} {xs : Nat → Int32} {D : va_G} {a : Nat → Nat} {cI cZ cJ : ClassId} {sa : Nat → Nat} {Q : State → Prop} {N : Nat} {i : Int32} {S : lSt} {jn : lSt → Option Int32} {out : Int32} {K SL : Nat} (F : g_LF p l m c s #[Value.ref b] D a cI cZ cJ sa) (hX : va_X b L xs s s.heap) (hbl : b < s.heap.size) (hK : K + 8 ≤ 601024) (hSL : SL + 48 ≤ 7293000)
    (hq : ∀ {S : lSt} (H : Heap) (locs : List Loc) (pc : Nat) (ls : Array Slot) (cl sl : Nat), cl ≤ 601024 → sl ≤ 7293000 → g_LS D a (lE a cI cZ cJ S) s H locs → decode cL_law pc = .ok (.ireturn, 1) → W p l e room_1 s m #[Value.ref b] below meth c H locs cl sl Q (F0 m pc ls [.int out]))
    (J2060 : ∀ {S : lSt} (H : Heap) (locs : List Loc) (ls : Array Slot), True → jn S = some out → g_LS D a (lE a cI cZ cJ S) s H locs → lv_has ls 7 [(0, .ref b), (1, .ref (a 0)), (2, .ref (a 66)), (3, .ref (a 65)), (4, .int i)] → W p l e room_1 s m #[Value.ref b] below meth c H locs (K + 8) (SL + 48) Q (F0 m 2060 ls []))
    (h : f_L_case14 N L xs i S jn = some out) {H : Heap} {locs : List Loc} {ls : Array Slot} (hI : g_LS D a (lE a cI cZ cJ S) s H locs) (hl : lv_has ls 7 [(0, .ref b), (1, .ref (a 0)), (2, .ref (a 66)), (3, .ref (a 65)), (4, .int i)]) : W p l e room_1 s m #[Value.ref b] below meth c H locs K SL Q (F0 m 1215 ls []) := by
  have hx := F.1.1
  have hb := F.1.2.1
  have hbA : ¬ (fun q => s.heap.size ≤ q) b := Nat.not_le.mpr hbl
  unfold f_L_case14 at h
  refine lv_aload_n hx hb dL_law_1215 rfl (lv_at hl 1 rfl) ?_
  refine lv_aload_n hx hb dL_law_1216 rfl (lv_at hl 0 rfl) ?_
  refine lv_iload hx hb dL_law_1217 (lv_at hl 4 rfl) ?_
  refine lv_iconst (v := 1) hx hb dL_law_1219 (by decide) ?_
  refine lv_iadd hx hb dL_law_1220 ?_
  obtain ⟨g_1221, h⟩ := g_guard h
  refine va_sld hx hb hX hbl hbA hI.2 g_1221 dL_law_1221 ?_
  refine lv_aload_n hx hb dL_law_1222 rfl (lv_at hl 0 rfl) ?_
  refine lv_iload hx hb dL_law_1223 (lv_at hl 4 rfl) ?_
  refine lv_iconst (v := 2) hx hb dL_law_1225 (by decide) ?_
  refine lv_iadd hx hb dL_law_1226 ?_
  obtain ⟨g_1227, h⟩ := g_guard h
  refine va_sld hx hb hX hbl hbA hI.2 g_1227 dL_law_1227 ?_
  refine lv_aload_n hx hb dL_law_1228 rfl (lv_at hl 3 rfl) ?_
  obtain ⟨q_1229, e_1229, h⟩ := gBind_in h
  obtain ⟨g_1229, h⟩ := g_guard h
  refine g_lcW (S := S) (σ' := q_1229.2.2) (f' := o_L_cost q_1229.1 q_1229.2.1 S.2.2) (As := [.ref (a 0), .int (xs (i + 1).toNatClampNeg), .int (xs (i + 2).toNatClampNeg), .ref (a 65)]) (rest := []) F hI (c_L_cost l D a cI cJ (g_inj_sub (by decide) F.2.2.1) F.2.2.2.2.2.2.2 sa N (xs (i + 1).toNatClampNeg) (xs (i + 2).toNatClampNeg) S.1 S.2.2 q_1229 e_1229 (Decidable.not_not.mp g_1229)) kh_L_cost kn_L kd_L_cost kt_L_cost km_L_166 ⟨(Nat.le_of_ble_eq_true rfl), (Nat.le_of_ble_eq_true rfl), rfl, rfl⟩ hl.1 rfl (Nat.le_of_ble_eq_true rfl) ⟨(by show _ ≤ 601024; omega), (by show _ ≤ 7293000; omega)⟩ dL_law_1229 (fun H locs hI => ?_)
  have hI : g_LS D a (lE a cI cZ cJ (q_1229.2.2, S.2.1, o_L_cost q_1229.1 q_1229.2.1 S.2.2)) s H locs := hI
  refine lv_istore (lv' := [(5, .int (f_L_cost q_1229.1)), (0, .ref b), (1, .ref (a 0)), (2, .ref (a 66)), (3, .ref (a 65)), (4, .int i)]) hx hb dL_law_1232 hl (by decide) rfl (fun ls hl => ?_)
  refine lv_aload_n hx hb dL_law_1234 rfl (lv_at hl 3 rfl) ?_
  refine lv_aload_n hx hb dL_law_1235 rfl (lv_at hl 1 rfl) ?_
  refine lv_iload hx hb dL_law_1236 (lv_at hl 5 rfl) ?_
  refine lv_iconst (v := 1) hx hb dL_law_1238 (by decide) ?_
  refine lv_iadd hx hb dL_law_1239 ?_
  obtain ⟨g_1240, h⟩ := g_guard h
  refine va_sld hx hb hX hbl hbA hI.2 g_1240 dL_law_1240 ?_
  refine lv_aload_n hx hb dL_law_1241 rfl (lv_at hl 1 rfl) ?_
  refine lv_iload hx hb dL_law_1242 (lv_at hl 5 rfl) ?_
  refine lv_iconst (v := 2) hx hb dL_law_1244 (by decide) ?_
  refine lv_iadd hx hb dL_law_1245 ?_
  obtain ⟨g_1246, h⟩ := g_guard h
  refine va_sld hx hb hX hbl hbA hI.2 g_1246 dL_law_1246 ?_
  obtain ⟨q_1247, e_1247, h⟩ := gBind_in h
  refine g_lcM (S := (q_1229.2.2, S.2.1, o_L_cost q_1229.1 q_1229.2.1 S.2.2)) (τ' := q_1247.2) (As := [.int (xs (i + 1).toNatClampNeg), .int (xs (i + 2).toNatClampNeg)]) (rest := []) F hI (c_X10_cost l D (fun j => a (66 + j)) cI cZ (g_inj_m F.2.2.1) N S.2.1 (xs (i + 1).toNatClampNeg) (xs (i + 2).toNatClampNeg) q_1247 e_1247) kb_X10_cost ki_X10_cost ks_X10_cost km_L_168 ⟨(Nat.le_of_ble_eq_true rfl), (Nat.le_of_ble_eq_true rfl), rfl, rfl⟩ hl.1 rfl (Nat.le_of_ble_eq_true rfl) ⟨(by show _ ≤ 601024; omega), (by show _ ≤ 7293000; omega)⟩ dL_law_1247 (fun H locs hI => ?_)
  have hI : g_LS D a (lE a cI cZ cJ (q_1229.2.2, q_1247.2, o_L_cost q_1229.1 q_1229.2.1 S.2.2)) s H locs := hI
  refine lv_istore (lv' := [(6, .int q_1247.1), (5, .int (f_L_cost q_1229.1)), (0, .ref b), (1, .ref (a 0)), (2, .ref (a 66)), (3, .ref (a 65)), (4, .int i)]) hx hb dL_law_1250 hl (by decide) rfl (fun ls hl => ?_)
  refine lv_aload_n hx hb dL_law_1252 rfl (lv_at hl 4 rfl) ?_
  refine g_lcM (S := (q_1229.2.2, q_1247.2, o_L_cost q_1229.1 q_1229.2.1 S.2.2)) (τ' := q_1247.2) (As := []) (rest := []) F hI (c_X10_thrown l D (fun j => a (66 + j)) cI cZ (g_inj_m F.2.2.1) q_1247.2) kb_X10_thrown ki_X10_thrown ks_X10_thrown km_L_118 ⟨(Nat.le_of_ble_eq_true rfl), (Nat.le_of_ble_eq_true rfl), rfl, rfl⟩ hl.1 rfl (Nat.le_of_ble_eq_true rfl) ⟨(by show _ ≤ 601024; omega), (by show _ ≤ 7293000; omega)⟩ dL_law_1253 (fun H locs hI => ?_)
  have hI : g_LS D a (lE a cI cZ cJ (q_1229.2.2, q_1247.2, o_L_cost q_1229.1 q_1229.2.1 S.2.2)) s H locs := hI
  refine lv_iload hx hb dL_law_1256 (lv_at hl 1 rfl) ?_
  refine lv_icmp_eq (tgt := 1263) hx hb dL_law_1258 (by decide) (fun c_1258 => ?_) (fun c_1258 => ?_)
  · have h := (if_pos c_1258).symm.trans h
    refine lv_iload hx hb dL_law_1263 (lv_at hl 1 rfl) ?_
    obtain ⟨j1280, hj1280, h⟩ := gJoin0_in h
    have J1280 : ∀ (H : Heap) (locs : List Loc) (ls : Array Slot), j1280  = some out → g_LS D a (lE a cI cZ cJ (q_1229.2.2, q_1247.2, o_L_cost q_1229.1 q_1229.2.1 S.2.2)) s H locs → lv_has ls 7 [(0, .ref b), (1, .ref (a 0)), (2, .ref (a 66)), (3, .ref (a 65)), (4, .int i)] → W p l e room_1 s m #[Value.ref b] below meth c H locs (K + 2) (SL + 12) Q (F0 m 1280 ls []) := by
      intro  H locs ls h hI hl
      rw [hj1280] at h
      refine lv_goto (tgt := 2060) hx hb dL_law_1280 (by decide) ?_
      refine W.widen (k := K + 8) (n := SL + 48) (by omega) (by omega) ?_
      exact J2060 _ _ _ trivial h hI (lv_sub hl [0, 1, 2, 3, 4] rfl)
    refine lv_if_ne (tgt := 1280) hx hb dL_law_1265 (by decide) (fun c_1265 => ?_) (fun c_1265 => ?_)
    · have h := (if_neg c_1265).symm.trans h
      exact J1280 _ _ _ h hI (lv_sub hl [2, 3, 4, 5, 6] rfl)
    · have h := (if_pos c_1265).symm.trans h
      refine lv_aload_n hx hb dL_law_1268 rfl (lv_at hl 5 rfl) ?_
      refine lv_iconst (v := 0) hx hb dL_law_1269 (by decide) ?_
      refine g_llald F hI dL_law_1270 ?_
      refine lv_iload hx hb dL_law_1271 (lv_at hl 0 rfl) ?_
      refine lv_i2l hx hb dL_law_1273 rfl ?_
      refine W.lcmp hx hb dL_law_1274 ?_
      refine lv_if_eq (tgt := 1280) hx hb dL_law_1275 (by decide) (fun c_1275 => ?_) (fun c_1275 => ?_)
      · have h := (if_pos c_1275).symm.trans h
        exact J1280 _ _ _ h hI (lv_sub hl [2, 3, 4, 5, 6] rfl)
      · have h := (if_neg c_1275).symm.trans h
        refine lv_iconst (v := 0) hx hb dL_law_1278 (by decide) ?_
        have h := Option.some.inj h
        subst h
        exact hq _ _ _ _ _ _ (by omega) (by omega) hI dL_law_1279
  · have h := (if_neg c_1258).symm.trans h
    refine lv_iconst (v := 0) hx hb dL_law_1261 (by decide) ?_
    have h := Option.some.inj h
    subst h
    exact hq _ _ _ _ _ _ (by omega) (by omega) hI dL_law_1262
theorem kd_L_costByCells : yL_costByCells.cls ≠ "java/lang/invoke/MethodHandle" ∧ yL_costByCells.cls ≠ "java/lang/invoke/VarHandle" ∧ (parseMethodDescriptor yL_costByCells.desc).map (fun d => d.parameters.length) = some 4 := by decide +kernel
def f_L_case15 (N L : Nat) (xs : Nat → Int32) (i : Int32) (S : lSt) (jn : lSt → Option Int32) : Option Int32 :=
  if i + 1 < 0 ∨ L ≤ (i + 1).toNatClampNeg then none else
  if i + 2 < 0 ∨ L ≤ (i + 2).toNatClampNeg then none else
  (f_X9_costByCells N S.1 (xs (i + 1).toNatClampNeg) (xs (i + 2).toNatClampNeg)).bind (fun (q_1297 : Nat × Int32 × gSt) =>
  if ¬ (q_1297.1 = 0 ∨ q_1297.1 = 1) then none else
  if i + 1 < 0 ∨ L ≤ (i + 1).toNatClampNeg then none else
  if i + 2 < 0 ∨ L ≤ (i + 2).toNatClampNeg then none else
  (f_X10_costByCells N S.2.1 (xs (i + 1).toNatClampNeg) (xs (i + 2).toNatClampNeg)).bind (fun (q_1315 : Int32 × gSt) =>
  if f_X10_thrown q_1315.2 = f_L_costByCells q_1297.1 then
    gJoin0 (
        jn (q_1297.2.2, q_1315.2, o_L_costByCells q_1297.1 q_1297.2.1 S.2.2)) (fun j1348 =>
      if f_L_costByCells q_1297.1 = 0 then
        if lg_cmp (o_L_costByCells q_1297.1 q_1297.2.1 S.2.2 0) q_1315.1.toInt64 = 0 then
          j1348
        else
          some 0
      else
        j1348)
  else
    some 0))
set_option maxRecDepth 100000 in
set_option maxHeartbeats 8000000 in
theorem w_L_case15 {p : Program} {e : Env} {s : State} {m : MethodId} {below : List Frame} {meth : Method} {c : Code} {l : Launch} {b L : Nat} {xs : Nat → Int32} {D : va_G} {a : Nat → Nat} {cI cZ cJ : ClassId} {sa : Nat → Nat} {Q : State → Prop} {N : Nat} {i : Int32} {S : lSt} {jn : lSt → Option Int32} {out : Int32} {K SL : Nat} (F : g_LF p l m c s #[Value.ref b] D a cI cZ cJ sa) (hX : va_X b L xs s s.heap) (hbl : b < s.heap.size) (hK : K + 8 ≤ 601024) (hSL : SL + 48 ≤ 7293000)
    (hq : ∀ {S : lSt} (H : Heap) (locs : List Loc) (pc : Nat) (ls : Array Slot) (cl sl : Nat), cl ≤ 601024 → sl ≤ 7293000 → g_LS D a (lE a cI cZ cJ S) s H locs → decode cL_law pc = .ok (.ireturn, 1) → W p l e room_1 s m #[Value.ref b] below meth c H locs cl sl Q (F0 m pc ls [.int out]))
    (J2060 : ∀ {S : lSt} (H : Heap) (locs : List Loc) (ls : Array Slot), True → jn S = some out → g_LS D a (lE a cI cZ cJ S) s H locs → lv_has ls 7 [(0, .ref b), (1, .ref (a 0)), (2, .ref (a 66)), (3, .ref (a 65)), (4, .int i)] → W p l e room_1 s m #[Value.ref b] below meth c H locs (K + 8) (SL + 48) Q (F0 m 2060 ls []))
    (h : f_L_case15 N L xs i S jn = some out) {H : Heap} {locs : List Loc} {ls : Array Slot} (hI : g_LS D a (lE a cI cZ cJ S) s H locs) (hl : lv_has ls 7 [(0, .ref b), (1, .ref (a 0)), (2, .ref (a 66)), (3, .ref (a 65)), (4, .int i)]) : W p l e room_1 s m #[Value.ref b] below meth c H locs K SL Q (F0 m 1283 ls []) := by
  have hx := F.1.1
  have hb := F.1.2.1
  have hbA : ¬ (fun q => s.heap.size ≤ q) b := Nat.not_le.mpr hbl
  unfold f_L_case15 at h
  refine lv_aload_n hx hb dL_law_1283 rfl (lv_at hl 1 rfl) ?_
  refine lv_aload_n hx hb dL_law_1284 rfl (lv_at hl 0 rfl) ?_
  refine lv_iload hx hb dL_law_1285 (lv_at hl 4 rfl) ?_
  refine lv_iconst (v := 1) hx hb dL_law_1287 (by decide) ?_
  refine lv_iadd hx hb dL_law_1288 ?_
  obtain ⟨g_1289, h⟩ := g_guard h
  refine va_sld hx hb hX hbl hbA hI.2 g_1289 dL_law_1289 ?_
  refine lv_aload_n hx hb dL_law_1290 rfl (lv_at hl 0 rfl) ?_
  refine lv_iload hx hb dL_law_1291 (lv_at hl 4 rfl) ?_
  refine lv_iconst (v := 2) hx hb dL_law_1293 (by decide) ?_
  refine lv_iadd hx hb dL_law_1294 ?_
  obtain ⟨g_1295, h⟩ := g_guard h
  refine va_sld hx hb hX hbl hbA hI.2 g_1295 dL_law_1295 ?_
  refine lv_aload_n hx hb dL_law_1296 rfl (lv_at hl 3 rfl) ?_
  obtain ⟨q_1297, e_1297, h⟩ := gBind_in h
  obtain ⟨g_1297, h⟩ := g_guard h
  refine g_lcW (S := S) (σ' := q_1297.2.2) (f' := o_L_costByCells q_1297.1 q_1297.2.1 S.2.2) (As := [.ref (a 0), .int (xs (i + 1).toNatClampNeg), .int (xs (i + 2).toNatClampNeg), .ref (a 65)]) (rest := []) F hI (c_L_costByCells l D a cI cJ (g_inj_sub (by decide) F.2.2.1) F.2.2.2.2.2.2.2 sa N (xs (i + 1).toNatClampNeg) (xs (i + 2).toNatClampNeg) S.1 S.2.2 q_1297 e_1297 (Decidable.not_not.mp g_1297)) kh_L_costByCells kn_L kd_L_costByCells kt_L_costByCells km_L_169 ⟨(Nat.le_of_ble_eq_true rfl), (Nat.le_of_ble_eq_true rfl), rfl, rfl⟩ hl.1 rfl (Nat.le_of_ble_eq_true rfl) ⟨(by show _ ≤ 601024; omega), (by show _ ≤ 7293000; omega)⟩ dL_law_1297 (fun H locs hI => ?_)
  have hI : g_LS D a (lE a cI cZ cJ (q_1297.2.2, S.2.1, o_L_costByCells q_1297.1 q_1297.2.1 S.2.2)) s H locs := hI
  refine lv_istore (lv' := [(5, .int (f_L_costByCells q_1297.1)), (0, .ref b), (1, .ref (a 0)), (2, .ref (a 66)), (3, .ref (a 65)), (4, .int i)]) hx hb dL_law_1300 hl (by decide) rfl (fun ls hl => ?_)
  refine lv_aload_n hx hb dL_law_1302 rfl (lv_at hl 3 rfl) ?_
  refine lv_aload_n hx hb dL_law_1303 rfl (lv_at hl 1 rfl) ?_
  refine lv_iload hx hb dL_law_1304 (lv_at hl 5 rfl) ?_
  refine lv_iconst (v := 1) hx hb dL_law_1306 (by decide) ?_
  refine lv_iadd hx hb dL_law_1307 ?_
  obtain ⟨g_1308, h⟩ := g_guard h
  refine va_sld hx hb hX hbl hbA hI.2 g_1308 dL_law_1308 ?_
  refine lv_aload_n hx hb dL_law_1309 rfl (lv_at hl 1 rfl) ?_
  refine lv_iload hx hb dL_law_1310 (lv_at hl 5 rfl) ?_
  refine lv_iconst (v := 2) hx hb dL_law_1312 (by decide) ?_
  refine lv_iadd hx hb dL_law_1313 ?_
  obtain ⟨g_1314, h⟩ := g_guard h
  refine va_sld hx hb hX hbl hbA hI.2 g_1314 dL_law_1314 ?_
  obtain ⟨q_1315, e_1315, h⟩ := gBind_in h
  refine g_lcM (S := (q_1297.2.2, S.2.1, o_L_costByCells q_1297.1 q_1297.2.1 S.2.2)) (τ' := q_1315.2) (As := [.int (xs (i + 1).toNatClampNeg), .int (xs (i + 2).toNatClampNeg)]) (rest := []) F hI (c_X10_costByCells l D (fun j => a (66 + j)) cI cZ (g_inj_m F.2.2.1) N S.2.1 (xs (i + 1).toNatClampNeg) (xs (i + 2).toNatClampNeg) q_1315 e_1315) kb_X10_costByCells ki_X10_costByCells ks_X10_costByCells km_L_171 ⟨(Nat.le_of_ble_eq_true rfl), (Nat.le_of_ble_eq_true rfl), rfl, rfl⟩ hl.1 rfl (Nat.le_of_ble_eq_true rfl) ⟨(by show _ ≤ 601024; omega), (by show _ ≤ 7293000; omega)⟩ dL_law_1315 (fun H locs hI => ?_)
  have hI : g_LS D a (lE a cI cZ cJ (q_1297.2.2, q_1315.2, o_L_costByCells q_1297.1 q_1297.2.1 S.2.2)) s H locs := hI
  refine lv_istore (lv' := [(6, .int q_1315.1), (5, .int (f_L_costByCells q_1297.1)), (0, .ref b), (1, .ref (a 0)), (2, .ref (a 66)), (3, .ref (a 65)), (4, .int i)]) hx hb dL_law_1318 hl (by decide) rfl (fun ls hl => ?_)
  refine lv_aload_n hx hb dL_law_1320 rfl (lv_at hl 4 rfl) ?_
  refine g_lcM (S := (q_1297.2.2, q_1315.2, o_L_costByCells q_1297.1 q_1297.2.1 S.2.2)) (τ' := q_1315.2) (As := []) (rest := []) F hI (c_X10_thrown l D (fun j => a (66 + j)) cI cZ (g_inj_m F.2.2.1) q_1315.2) kb_X10_thrown ki_X10_thrown ks_X10_thrown km_L_118 ⟨(Nat.le_of_ble_eq_true rfl), (Nat.le_of_ble_eq_true rfl), rfl, rfl⟩ hl.1 rfl (Nat.le_of_ble_eq_true rfl) ⟨(by show _ ≤ 601024; omega), (by show _ ≤ 7293000; omega)⟩ dL_law_1321 (fun H locs hI => ?_)
  have hI : g_LS D a (lE a cI cZ cJ (q_1297.2.2, q_1315.2, o_L_costByCells q_1297.1 q_1297.2.1 S.2.2)) s H locs := hI
  refine lv_iload hx hb dL_law_1324 (lv_at hl 1 rfl) ?_
  refine lv_icmp_eq (tgt := 1331) hx hb dL_law_1326 (by decide) (fun c_1326 => ?_) (fun c_1326 => ?_)
  · have h := (if_pos c_1326).symm.trans h
    refine lv_iload hx hb dL_law_1331 (lv_at hl 1 rfl) ?_
    obtain ⟨j1348, hj1348, h⟩ := gJoin0_in h
    have J1348 : ∀ (H : Heap) (locs : List Loc) (ls : Array Slot), j1348  = some out → g_LS D a (lE a cI cZ cJ (q_1297.2.2, q_1315.2, o_L_costByCells q_1297.1 q_1297.2.1 S.2.2)) s H locs → lv_has ls 7 [(0, .ref b), (1, .ref (a 0)), (2, .ref (a 66)), (3, .ref (a 65)), (4, .int i)] → W p l e room_1 s m #[Value.ref b] below meth c H locs (K + 2) (SL + 12) Q (F0 m 1348 ls []) := by
      intro  H locs ls h hI hl
      rw [hj1348] at h
      refine lv_goto (tgt := 2060) hx hb dL_law_1348 (by decide) ?_
      refine W.widen (k := K + 8) (n := SL + 48) (by omega) (by omega) ?_
      exact J2060 _ _ _ trivial h hI (lv_sub hl [0, 1, 2, 3, 4] rfl)
    refine lv_if_ne (tgt := 1348) hx hb dL_law_1333 (by decide) (fun c_1333 => ?_) (fun c_1333 => ?_)
    · have h := (if_neg c_1333).symm.trans h
      exact J1348 _ _ _ h hI (lv_sub hl [2, 3, 4, 5, 6] rfl)
    · have h := (if_pos c_1333).symm.trans h
      refine lv_aload_n hx hb dL_law_1336 rfl (lv_at hl 5 rfl) ?_
      refine lv_iconst (v := 0) hx hb dL_law_1337 (by decide) ?_
      refine g_llald F hI dL_law_1338 ?_
      refine lv_iload hx hb dL_law_1339 (lv_at hl 0 rfl) ?_
      refine lv_i2l hx hb dL_law_1341 rfl ?_
      refine W.lcmp hx hb dL_law_1342 ?_
      refine lv_if_eq (tgt := 1348) hx hb dL_law_1343 (by decide) (fun c_1343 => ?_) (fun c_1343 => ?_)
      · have h := (if_pos c_1343).symm.trans h
        exact J1348 _ _ _ h hI (lv_sub hl [2, 3, 4, 5, 6] rfl)
      · have h := (if_neg c_1343).symm.trans h
        refine lv_iconst (v := 0) hx hb dL_law_1346 (by decide) ?_
        have h := Option.some.inj h
        subst h
        exact hq _ _ _ _ _ _ (by omega) (by omega) hI dL_law_1347
  · have h := (if_neg c_1326).symm.trans h
    refine lv_iconst (v := 0) hx hb dL_law_1329 (by decide) ?_
    have h := Option.some.inj h
    subst h
    exact hq _ _ _ _ _ _ (by omega) (by omega) hI dL_law_1330
theorem kd_L_climb : yL_climb.cls ≠ "java/lang/invoke/MethodHandle" ∧ yL_climb.cls ≠ "java/lang/invoke/VarHandle" ∧ (parseMethodDescriptor yL_climb.desc).map (fun d => d.parameters.length) = some 4 := by decide +kernel
def f_L_case16 (N L : Nat) (xs : Nat → Int32) (i : Int32) (S : lSt) (jn : lSt → Option Int32) : Option Int32 :=
  if i + 1 < 0 ∨ L ≤ (i + 1).toNatClampNeg then none else
  if i + 2 < 0 ∨ L ≤ (i + 2).toNatClampNeg then none else
  (f_X9_climb N S.1 (xs (i + 1).toNatClampNeg) (xs (i + 2).toNatClampNeg)).bind (fun (q_1365 : Nat × Int32 × gSt) =>
  if ¬ (q_1365.1 = 0 ∨ q_1365.1 = 1) then none else
  if i + 1 < 0 ∨ L ≤ (i + 1).toNatClampNeg then none else
  if i + 2 < 0 ∨ L ≤ (i + 2).toNatClampNeg then none else
  (f_X10_climb N S.2.1 (xs (i + 1).toNatClampNeg) (xs (i + 2).toNatClampNeg)).bind (fun (q_1383 : Int32 × gSt) =>
  if f_X10_thrown q_1383.2 = f_L_climb q_1365.1 then
    gJoin0 (
        jn (q_1365.2.2, q_1383.2, o_L_climb q_1365.1 q_1365.2.1 S.2.2)) (fun j1416 =>
      if f_L_climb q_1365.1 = 0 then
        if lg_cmp (o_L_climb q_1365.1 q_1365.2.1 S.2.2 0) q_1383.1.toInt64 = 0 then
          j1416
        else
          some 0
      else
        j1416)
  else
    some 0))
set_option maxRecDepth 100000 in
set_option maxHeartbeats 8000000 in
theorem w_L_case16 {p : Program} {e : Env} {s : State} {m : MethodId} {below : List Frame} {meth : Method} {c : Code} {l : Launch} {b L : Nat} {xs : Nat → Int32} {D : va_G} {a : Nat → Nat} {cI cZ cJ : ClassId} {sa : Nat → Nat} {Q : State → Prop} {N : Nat} {i : Int32} {S : lSt} {jn : lSt → Option Int32} {out : Int32} {K SL : Nat} (F : g_LF p l m c s #[Value.ref b] D a cI cZ cJ sa) (hX : va_X b L xs s s.heap) (hbl : b < s.heap.size) (hK : K + 8 ≤ 601024) (hSL : SL + 48 ≤ 7293000)
    (hq : ∀ {S : lSt} (H : Heap) (locs : List Loc) (pc : Nat) (ls : Array Slot) (cl sl : Nat), cl ≤ 601024 → sl ≤ 7293000 → g_LS D a (lE a cI cZ cJ S) s H locs → decode cL_law pc = .ok (.ireturn, 1) → W p l e room_1 s m #[Value.ref b] below meth c H locs cl sl Q (F0 m pc ls [.int out]))
    (J2060 : ∀ {S : lSt} (H : Heap) (locs : List Loc) (ls : Array Slot), True → jn S = some out → g_LS D a (lE a cI cZ cJ S) s H locs → lv_has ls 7 [(0, .ref b), (1, .ref (a 0)), (2, .ref (a 66)), (3, .ref (a 65)), (4, .int i)] → W p l e room_1 s m #[Value.ref b] below meth c H locs (K + 8) (SL + 48) Q (F0 m 2060 ls []))
    (h : f_L_case16 N L xs i S jn = some out) {H : Heap} {locs : List Loc} {ls : Array Slot} (hI : g_LS D a (lE a cI cZ cJ S) s H locs) (hl : lv_has ls 7 [(0, .ref b), (1, .ref (a 0)), (2, .ref (a 66)), (3, .ref (a 65)), (4, .int i)]) : W p l e room_1 s m #[Value.ref b] below meth c H locs K SL Q (F0 m 1351 ls []) := by
  have hx := F.1.1
  have hb := F.1.2.1
  have hbA : ¬ (fun q => s.heap.size ≤ q) b := Nat.not_le.mpr hbl
  unfold f_L_case16 at h
  refine lv_aload_n hx hb dL_law_1351 rfl (lv_at hl 1 rfl) ?_
  refine lv_aload_n hx hb dL_law_1352 rfl (lv_at hl 0 rfl) ?_
  refine lv_iload hx hb dL_law_1353 (lv_at hl 4 rfl) ?_
  refine lv_iconst (v := 1) hx hb dL_law_1355 (by decide) ?_
  refine lv_iadd hx hb dL_law_1356 ?_
  obtain ⟨g_1357, h⟩ := g_guard h
  refine va_sld hx hb hX hbl hbA hI.2 g_1357 dL_law_1357 ?_
  refine lv_aload_n hx hb dL_law_1358 rfl (lv_at hl 0 rfl) ?_
  refine lv_iload hx hb dL_law_1359 (lv_at hl 4 rfl) ?_
  refine lv_iconst (v := 2) hx hb dL_law_1361 (by decide) ?_
  refine lv_iadd hx hb dL_law_1362 ?_
  obtain ⟨g_1363, h⟩ := g_guard h
  refine va_sld hx hb hX hbl hbA hI.2 g_1363 dL_law_1363 ?_
  refine lv_aload_n hx hb dL_law_1364 rfl (lv_at hl 3 rfl) ?_
  obtain ⟨q_1365, e_1365, h⟩ := gBind_in h
  obtain ⟨g_1365, h⟩ := g_guard h
  refine g_lcW (S := S) (σ' := q_1365.2.2) (f' := o_L_climb q_1365.1 q_1365.2.1 S.2.2) (As := [.ref (a 0), .int (xs (i + 1).toNatClampNeg), .int (xs (i + 2).toNatClampNeg), .ref (a 65)]) (rest := []) F hI (c_L_climb l D a cI cJ (g_inj_sub (by decide) F.2.2.1) F.2.2.2.2.2.2.2 sa N (xs (i + 1).toNatClampNeg) (xs (i + 2).toNatClampNeg) S.1 S.2.2 q_1365 e_1365 (Decidable.not_not.mp g_1365)) kh_L_climb kn_L kd_L_climb kt_L_climb km_L_172 ⟨(Nat.le_of_ble_eq_true rfl), (Nat.le_of_ble_eq_true rfl), rfl, rfl⟩ hl.1 rfl (Nat.le_of_ble_eq_true rfl) ⟨(by show _ ≤ 601024; omega), (by show _ ≤ 7293000; omega)⟩ dL_law_1365 (fun H locs hI => ?_)
  have hI : g_LS D a (lE a cI cZ cJ (q_1365.2.2, S.2.1, o_L_climb q_1365.1 q_1365.2.1 S.2.2)) s H locs := hI
  refine lv_istore (lv' := [(5, .int (f_L_climb q_1365.1)), (0, .ref b), (1, .ref (a 0)), (2, .ref (a 66)), (3, .ref (a 65)), (4, .int i)]) hx hb dL_law_1368 hl (by decide) rfl (fun ls hl => ?_)
  refine lv_aload_n hx hb dL_law_1370 rfl (lv_at hl 3 rfl) ?_
  refine lv_aload_n hx hb dL_law_1371 rfl (lv_at hl 1 rfl) ?_
  refine lv_iload hx hb dL_law_1372 (lv_at hl 5 rfl) ?_
  refine lv_iconst (v := 1) hx hb dL_law_1374 (by decide) ?_
  refine lv_iadd hx hb dL_law_1375 ?_
  obtain ⟨g_1376, h⟩ := g_guard h
  refine va_sld hx hb hX hbl hbA hI.2 g_1376 dL_law_1376 ?_
  refine lv_aload_n hx hb dL_law_1377 rfl (lv_at hl 1 rfl) ?_
  refine lv_iload hx hb dL_law_1378 (lv_at hl 5 rfl) ?_
  refine lv_iconst (v := 2) hx hb dL_law_1380 (by decide) ?_
  refine lv_iadd hx hb dL_law_1381 ?_
  obtain ⟨g_1382, h⟩ := g_guard h
  refine va_sld hx hb hX hbl hbA hI.2 g_1382 dL_law_1382 ?_
  obtain ⟨q_1383, e_1383, h⟩ := gBind_in h
  refine g_lcM (S := (q_1365.2.2, S.2.1, o_L_climb q_1365.1 q_1365.2.1 S.2.2)) (τ' := q_1383.2) (As := [.int (xs (i + 1).toNatClampNeg), .int (xs (i + 2).toNatClampNeg)]) (rest := []) F hI (c_X10_climb l D (fun j => a (66 + j)) cI cZ (g_inj_m F.2.2.1) N S.2.1 (xs (i + 1).toNatClampNeg) (xs (i + 2).toNatClampNeg) q_1383 e_1383) kb_X10_climb ki_X10_climb ks_X10_climb km_L_174 ⟨(Nat.le_of_ble_eq_true rfl), (Nat.le_of_ble_eq_true rfl), rfl, rfl⟩ hl.1 rfl (Nat.le_of_ble_eq_true rfl) ⟨(by show _ ≤ 601024; omega), (by show _ ≤ 7293000; omega)⟩ dL_law_1383 (fun H locs hI => ?_)
  have hI : g_LS D a (lE a cI cZ cJ (q_1365.2.2, q_1383.2, o_L_climb q_1365.1 q_1365.2.1 S.2.2)) s H locs := hI
  refine lv_istore (lv' := [(6, .int q_1383.1), (5, .int (f_L_climb q_1365.1)), (0, .ref b), (1, .ref (a 0)), (2, .ref (a 66)), (3, .ref (a 65)), (4, .int i)]) hx hb dL_law_1386 hl (by decide) rfl (fun ls hl => ?_)
  refine lv_aload_n hx hb dL_law_1388 rfl (lv_at hl 4 rfl) ?_
  refine g_lcM (S := (q_1365.2.2, q_1383.2, o_L_climb q_1365.1 q_1365.2.1 S.2.2)) (τ' := q_1383.2) (As := []) (rest := []) F hI (c_X10_thrown l D (fun j => a (66 + j)) cI cZ (g_inj_m F.2.2.1) q_1383.2) kb_X10_thrown ki_X10_thrown ks_X10_thrown km_L_118 ⟨(Nat.le_of_ble_eq_true rfl), (Nat.le_of_ble_eq_true rfl), rfl, rfl⟩ hl.1 rfl (Nat.le_of_ble_eq_true rfl) ⟨(by show _ ≤ 601024; omega), (by show _ ≤ 7293000; omega)⟩ dL_law_1389 (fun H locs hI => ?_)
  have hI : g_LS D a (lE a cI cZ cJ (q_1365.2.2, q_1383.2, o_L_climb q_1365.1 q_1365.2.1 S.2.2)) s H locs := hI
  refine lv_iload hx hb dL_law_1392 (lv_at hl 1 rfl) ?_
  refine lv_icmp_eq (tgt := 1399) hx hb dL_law_1394 (by decide) (fun c_1394 => ?_) (fun c_1394 => ?_)
  · have h := (if_pos c_1394).symm.trans h
    refine lv_iload hx hb dL_law_1399 (lv_at hl 1 rfl) ?_
    obtain ⟨j1416, hj1416, h⟩ := gJoin0_in h
    have J1416 : ∀ (H : Heap) (locs : List Loc) (ls : Array Slot), j1416  = some out → g_LS D a (lE a cI cZ cJ (q_1365.2.2, q_1383.2, o_L_climb q_1365.1 q_1365.2.1 S.2.2)) s H locs → lv_has ls 7 [(0, .ref b), (1, .ref (a 0)), (2, .ref (a 66)), (3, .ref (a 65)), (4, .int i)] → W p l e room_1 s m #[Value.ref b] below meth c H locs (K + 2) (SL + 12) Q (F0 m 1416 ls []) := by
      intro  H locs ls h hI hl
      rw [hj1416] at h
      refine lv_goto (tgt := 2060) hx hb dL_law_1416 (by decide) ?_
      refine W.widen (k := K + 8) (n := SL + 48) (by omega) (by omega) ?_
      exact J2060 _ _ _ trivial h hI (lv_sub hl [0, 1, 2, 3, 4] rfl)
    refine lv_if_ne (tgt := 1416) hx hb dL_law_1401 (by decide) (fun c_1401 => ?_) (fun c_1401 => ?_)
    · have h := (if_neg c_1401).symm.trans h
      exact J1416 _ _ _ h hI (lv_sub hl [2, 3, 4, 5, 6] rfl)
    · have h := (if_pos c_1401).symm.trans h
      refine lv_aload_n hx hb dL_law_1404 rfl (lv_at hl 5 rfl) ?_
      refine lv_iconst (v := 0) hx hb dL_law_1405 (by decide) ?_
      refine g_llald F hI dL_law_1406 ?_
      refine lv_iload hx hb dL_law_1407 (lv_at hl 0 rfl) ?_
      refine lv_i2l hx hb dL_law_1409 rfl ?_
      refine W.lcmp hx hb dL_law_1410 ?_
      refine lv_if_eq (tgt := 1416) hx hb dL_law_1411 (by decide) (fun c_1411 => ?_) (fun c_1411 => ?_)
      · have h := (if_pos c_1411).symm.trans h
        exact J1416 _ _ _ h hI (lv_sub hl [2, 3, 4, 5, 6] rfl)
      · have h := (if_neg c_1411).symm.trans h
        refine lv_iconst (v := 0) hx hb dL_law_1414 (by decide) ?_
        have h := Option.some.inj h
        subst h
        exact hq _ _ _ _ _ _ (by omega) (by omega) hI dL_law_1415
  · have h := (if_neg c_1394).symm.trans h
    refine lv_iconst (v := 0) hx hb dL_law_1397 (by decide) ?_
    have h := Option.some.inj h
    subst h
    exact hq _ _ _ _ _ _ (by omega) (by omega) hI dL_law_1398
theorem kd_L_tempts : yL_tempts.cls ≠ "java/lang/invoke/MethodHandle" ∧ yL_tempts.cls ≠ "java/lang/invoke/VarHandle" ∧ (parseMethodDescriptor yL_tempts.desc).map (fun d => d.parameters.length) = some 4 := by decide +kernel
def f_L_case17 (N L : Nat) (xs : Nat → Int32) (i : Int32) (S : lSt) (jn : lSt → Option Int32) : Option Int32 :=
  if i + 1 < 0 ∨ L ≤ (i + 1).toNatClampNeg then none else
  if i + 2 < 0 ∨ L ≤ (i + 2).toNatClampNeg then none else
  (f_X9_tempts N S.1 (xs (i + 1).toNatClampNeg) (xs (i + 2).toNatClampNeg)).bind (fun (q_1433 : Nat × Int32 × gSt) =>
  if ¬ (q_1433.1 = 0 ∨ q_1433.1 = 1) then none else
  if i + 1 < 0 ∨ L ≤ (i + 1).toNatClampNeg then none else
  if i + 2 < 0 ∨ L ≤ (i + 2).toNatClampNeg then none else
  (f_X10_tempts N S.2.1 (xs (i + 1).toNatClampNeg) (xs (i + 2).toNatClampNeg)).bind (fun (q_1451 : Int32 × gSt) =>
  if f_X10_thrown q_1451.2 = f_L_tempts q_1433.1 then
    gJoin0 (
        jn (q_1433.2.2, q_1451.2, o_L_tempts q_1433.1 q_1433.2.1 S.2.2)) (fun j1491 =>
      if f_L_tempts q_1433.1 = 0 then
        gJoin1 (fun (w0_1485 : Int64) =>
            if lg_cmp (o_L_tempts q_1433.1 q_1433.2.1 S.2.2 0) w0_1485 = 0 then
              j1491
            else
              some 0) (fun j1485 =>
          if q_1451.1 = 0 then
            j1485 0
          else
            j1485 1)
      else
        j1491)
  else
    some 0))
set_option maxRecDepth 100000 in
set_option maxHeartbeats 8000000 in
theorem w_L_case17 {p : Program} {e : Env} {s : State} {m : MethodId} {below : List Frame} {meth : Method} {c : Code} {l : Launch} {b L : Nat} {xs : Nat → Int32} {D : va_G} {a : Nat → Nat} {cI cZ cJ : ClassId} {sa : Nat → Nat} {Q : State → Prop} {N : Nat} {i : Int32} {S : lSt} {jn : lSt → Option Int32} {out : Int32} {K SL : Nat} (F : g_LF p l m c s #[Value.ref b] D a cI cZ cJ sa) (hX : va_X b L xs s s.heap) (hbl : b < s.heap.size) (hK : K + 8 ≤ 601024) (hSL : SL + 48 ≤ 7293000)
    (hq : ∀ {S : lSt} (H : Heap) (locs : List Loc) (pc : Nat) (ls : Array Slot) (cl sl : Nat), cl ≤ 601024 → sl ≤ 7293000 → g_LS D a (lE a cI cZ cJ S) s H locs → decode cL_law pc = .ok (.ireturn, 1) → W p l e room_1 s m #[Value.ref b] below meth c H locs cl sl Q (F0 m pc ls [.int out]))
    (J2060 : ∀ {S : lSt} (H : Heap) (locs : List Loc) (ls : Array Slot), True → jn S = some out → g_LS D a (lE a cI cZ cJ S) s H locs → lv_has ls 7 [(0, .ref b), (1, .ref (a 0)), (2, .ref (a 66)), (3, .ref (a 65)), (4, .int i)] → W p l e room_1 s m #[Value.ref b] below meth c H locs (K + 8) (SL + 48) Q (F0 m 2060 ls []))
    (h : f_L_case17 N L xs i S jn = some out) {H : Heap} {locs : List Loc} {ls : Array Slot} (hI : g_LS D a (lE a cI cZ cJ S) s H locs) (hl : lv_has ls 7 [(0, .ref b), (1, .ref (a 0)), (2, .ref (a 66)), (3, .ref (a 65)), (4, .int i)]) : W p l e room_1 s m #[Value.ref b] below meth c H locs K SL Q (F0 m 1419 ls []) := by
  have hx := F.1.1
  have hb := F.1.2.1
  have hbA : ¬ (fun q => s.heap.size ≤ q) b := Nat.not_le.mpr hbl
  unfold f_L_case17 at h
  refine lv_aload_n hx hb dL_law_1419 rfl (lv_at hl 1 rfl) ?_
  refine lv_aload_n hx hb dL_law_1420 rfl (lv_at hl 0 rfl) ?_
  refine lv_iload hx hb dL_law_1421 (lv_at hl 4 rfl) ?_
  refine lv_iconst (v := 1) hx hb dL_law_1423 (by decide) ?_
  refine lv_iadd hx hb dL_law_1424 ?_
  obtain ⟨g_1425, h⟩ := g_guard h
  refine va_sld hx hb hX hbl hbA hI.2 g_1425 dL_law_1425 ?_
  refine lv_aload_n hx hb dL_law_1426 rfl (lv_at hl 0 rfl) ?_
  refine lv_iload hx hb dL_law_1427 (lv_at hl 4 rfl) ?_
  refine lv_iconst (v := 2) hx hb dL_law_1429 (by decide) ?_
  refine lv_iadd hx hb dL_law_1430 ?_
  obtain ⟨g_1431, h⟩ := g_guard h
  refine va_sld hx hb hX hbl hbA hI.2 g_1431 dL_law_1431 ?_
  refine lv_aload_n hx hb dL_law_1432 rfl (lv_at hl 3 rfl) ?_
  obtain ⟨q_1433, e_1433, h⟩ := gBind_in h
  obtain ⟨g_1433, h⟩ := g_guard h
  refine g_lcW (S := S) (σ' := q_1433.2.2) (f' := o_L_tempts q_1433.1 q_1433.2.1 S.2.2) (As := [.ref (a 0), .int (xs (i + 1).toNatClampNeg), .int (xs (i + 2).toNatClampNeg), .ref (a 65)]) (rest := []) F hI (c_L_tempts l D a cI cJ (g_inj_sub (by decide) F.2.2.1) F.2.2.2.2.2.2.2 sa N (xs (i + 1).toNatClampNeg) (xs (i + 2).toNatClampNeg) S.1 S.2.2 q_1433 e_1433 (Decidable.not_not.mp g_1433)) kh_L_tempts kn_L kd_L_tempts kt_L_tempts km_L_175 ⟨(Nat.le_of_ble_eq_true rfl), (Nat.le_of_ble_eq_true rfl), rfl, rfl⟩ hl.1 rfl (Nat.le_of_ble_eq_true rfl) ⟨(by show _ ≤ 601024; omega), (by show _ ≤ 7293000; omega)⟩ dL_law_1433 (fun H locs hI => ?_)
  have hI : g_LS D a (lE a cI cZ cJ (q_1433.2.2, S.2.1, o_L_tempts q_1433.1 q_1433.2.1 S.2.2)) s H locs := hI
  refine lv_istore (lv' := [(5, .int (f_L_tempts q_1433.1)), (0, .ref b), (1, .ref (a 0)), (2, .ref (a 66)), (3, .ref (a 65)), (4, .int i)]) hx hb dL_law_1436 hl (by decide) rfl (fun ls hl => ?_)
  refine lv_aload_n hx hb dL_law_1438 rfl (lv_at hl 3 rfl) ?_
  refine lv_aload_n hx hb dL_law_1439 rfl (lv_at hl 1 rfl) ?_
  refine lv_iload hx hb dL_law_1440 (lv_at hl 5 rfl) ?_
  refine lv_iconst (v := 1) hx hb dL_law_1442 (by decide) ?_
  refine lv_iadd hx hb dL_law_1443 ?_
  obtain ⟨g_1444, h⟩ := g_guard h
  refine va_sld hx hb hX hbl hbA hI.2 g_1444 dL_law_1444 ?_
  refine lv_aload_n hx hb dL_law_1445 rfl (lv_at hl 1 rfl) ?_
  refine lv_iload hx hb dL_law_1446 (lv_at hl 5 rfl) ?_
  refine lv_iconst (v := 2) hx hb dL_law_1448 (by decide) ?_
  refine lv_iadd hx hb dL_law_1449 ?_
  obtain ⟨g_1450, h⟩ := g_guard h
  refine va_sld hx hb hX hbl hbA hI.2 g_1450 dL_law_1450 ?_
  obtain ⟨q_1451, e_1451, h⟩ := gBind_in h
  refine g_lcM (S := (q_1433.2.2, S.2.1, o_L_tempts q_1433.1 q_1433.2.1 S.2.2)) (τ' := q_1451.2) (As := [.int (xs (i + 1).toNatClampNeg), .int (xs (i + 2).toNatClampNeg)]) (rest := []) F hI (c_X10_tempts l D (fun j => a (66 + j)) cI cZ (g_inj_m F.2.2.1) N S.2.1 (xs (i + 1).toNatClampNeg) (xs (i + 2).toNatClampNeg) q_1451 e_1451) kb_X10_tempts ki_X10_tempts ks_X10_tempts km_L_177 ⟨(Nat.le_of_ble_eq_true rfl), (Nat.le_of_ble_eq_true rfl), rfl, rfl⟩ hl.1 rfl (Nat.le_of_ble_eq_true rfl) ⟨(by show _ ≤ 601024; omega), (by show _ ≤ 7293000; omega)⟩ dL_law_1451 (fun H locs hI => ?_)
  have hI : g_LS D a (lE a cI cZ cJ (q_1433.2.2, q_1451.2, o_L_tempts q_1433.1 q_1433.2.1 S.2.2)) s H locs := hI
  refine lv_istore (lv' := [(6, .int q_1451.1), (5, .int (f_L_tempts q_1433.1)), (0, .ref b), (1, .ref (a 0)), (2, .ref (a 66)), (3, .ref (a 65)), (4, .int i)]) hx hb dL_law_1454 hl (by decide) rfl (fun ls hl => ?_)
  refine lv_aload_n hx hb dL_law_1456 rfl (lv_at hl 4 rfl) ?_
  refine g_lcM (S := (q_1433.2.2, q_1451.2, o_L_tempts q_1433.1 q_1433.2.1 S.2.2)) (τ' := q_1451.2) (As := []) (rest := []) F hI (c_X10_thrown l D (fun j => a (66 + j)) cI cZ (g_inj_m F.2.2.1) q_1451.2) kb_X10_thrown ki_X10_thrown ks_X10_thrown km_L_118 ⟨(Nat.le_of_ble_eq_true rfl), (Nat.le_of_ble_eq_true rfl), rfl, rfl⟩ hl.1 rfl (Nat.le_of_ble_eq_true rfl) ⟨(by show _ ≤ 601024; omega), (by show _ ≤ 7293000; omega)⟩ dL_law_1457 (fun H locs hI => ?_)
  have hI : g_LS D a (lE a cI cZ cJ (q_1433.2.2, q_1451.2, o_L_tempts q_1433.1 q_1433.2.1 S.2.2)) s H locs := hI
  refine lv_iload hx hb dL_law_1460 (lv_at hl 1 rfl) ?_
  refine lv_icmp_eq (tgt := 1467) hx hb dL_law_1462 (by decide) (fun c_1462 => ?_) (fun c_1462 => ?_)
  · have h := (if_pos c_1462).symm.trans h
    refine lv_iload hx hb dL_law_1467 (lv_at hl 1 rfl) ?_
    obtain ⟨j1491, hj1491, h⟩ := gJoin0_in h
    have J1491 : ∀ (H : Heap) (locs : List Loc) (ls : Array Slot), j1491  = some out → g_LS D a (lE a cI cZ cJ (q_1433.2.2, q_1451.2, o_L_tempts q_1433.1 q_1433.2.1 S.2.2)) s H locs → lv_has ls 7 [(0, .ref b), (1, .ref (a 0)), (2, .ref (a 66)), (3, .ref (a 65)), (4, .int i)] → W p l e room_1 s m #[Value.ref b] below meth c H locs (K + 2) (SL + 12) Q (F0 m 1491 ls []) := by
      intro  H locs ls h hI hl
      rw [hj1491] at h
      refine lv_goto (tgt := 2060) hx hb dL_law_1491 (by decide) ?_
      refine W.widen (k := K + 8) (n := SL + 48) (by omega) (by omega) ?_
      exact J2060 _ _ _ trivial h hI (lv_sub hl [0, 1, 2, 3, 4] rfl)
    refine lv_if_ne (tgt := 1491) hx hb dL_law_1469 (by decide) (fun c_1469 => ?_) (fun c_1469 => ?_)
    · have h := (if_neg c_1469).symm.trans h
      exact J1491 _ _ _ h hI (lv_sub hl [2, 3, 4, 5, 6] rfl)
    · have h := (if_pos c_1469).symm.trans h
      refine lv_aload_n hx hb dL_law_1472 rfl (lv_at hl 5 rfl) ?_
      refine lv_iconst (v := 0) hx hb dL_law_1473 (by decide) ?_
      refine g_llald F hI dL_law_1474 ?_
      refine lv_iload hx hb dL_law_1475 (lv_at hl 0 rfl) ?_
      obtain ⟨j1485, hj1485, h⟩ := gJoin1_in h
      have J1485 : ∀ (w0_1485 : Int64) (H : Heap) (locs : List Loc) (ls : Array Slot), j1485 w0_1485 = some out → g_LS D a (lE a cI cZ cJ (q_1433.2.2, q_1451.2, o_L_tempts q_1433.1 q_1433.2.1 S.2.2)) s H locs → lv_has ls 7 [(0, .ref b), (1, .ref (a 0)), (2, .ref (a 66)), (3, .ref (a 65)), (4, .int i)] → W p l e room_1 s m #[Value.ref b] below meth c H locs (K + 2) (SL + 12) Q (F0 m 1485 ls [.long w0_1485, .long (o_L_tempts q_1433.1 q_1433.2.1 S.2.2 0)]) := by
        intro w0_1485 H locs ls h hI hl
        rw [hj1485] at h
        refine W.lcmp hx hb dL_law_1485 ?_
        refine lv_if_eq (tgt := 1491) hx hb dL_law_1486 (by decide) (fun c_1486 => ?_) (fun c_1486 => ?_)
        · have h := (if_pos c_1486).symm.trans h
          exact J1491 _ _ _ h hI (lv_sub hl [0, 1, 2, 3, 4] rfl)
        · have h := (if_neg c_1486).symm.trans h
          refine lv_iconst (v := 0) hx hb dL_law_1489 (by decide) ?_
          have h := Option.some.inj h
          subst h
          exact hq _ _ _ _ _ _ (by omega) (by omega) hI dL_law_1490
      refine lv_if_eq (tgt := 1484) hx hb dL_law_1477 (by decide) (fun c_1477 => ?_) (fun c_1477 => ?_)
      · have h := (if_pos c_1477).symm.trans h
        refine lv_lconst (v := 0) hx hb dL_law_1484 rfl ?_
        exact J1485 _ _ _ _ h hI (lv_sub hl [2, 3, 4, 5, 6] rfl)
      · have h := (if_neg c_1477).symm.trans h
        refine lv_lconst (v := 1) hx hb dL_law_1480 rfl ?_
        refine lv_goto (tgt := 1485) hx hb dL_law_1481 (by decide) ?_
        exact J1485 _ _ _ _ h hI (lv_sub hl [2, 3, 4, 5, 6] rfl)
  · have h := (if_neg c_1462).symm.trans h
    refine lv_iconst (v := 0) hx hb dL_law_1465 (by decide) ?_
    have h := Option.some.inj h
    subst h
    exact hq _ _ _ _ _ _ (by omega) (by omega) hI dL_law_1466
theorem kd_L_courseAt : yL_courseAt.cls ≠ "java/lang/invoke/MethodHandle" ∧ yL_courseAt.cls ≠ "java/lang/invoke/VarHandle" ∧ (parseMethodDescriptor yL_courseAt.desc).map (fun d => d.parameters.length) = some 4 := by decide +kernel
def f_L_case18 (N L : Nat) (xs : Nat → Int32) (i : Int32) (S : lSt) (jn : lSt → Option Int32) : Option Int32 :=
  if i + 1 < 0 ∨ L ≤ (i + 1).toNatClampNeg then none else
  if i + 2 < 0 ∨ L ≤ (i + 2).toNatClampNeg then none else
  (some (f_X9_courseAt S.1 (xs (i + 1).toNatClampNeg) (xs (i + 2).toNatClampNeg))).bind (fun (q_1508 : Nat × Int32 × gSt) =>
  if ¬ (q_1508.1 = 0 ∨ q_1508.1 = 1) then none else
  if i + 1 < 0 ∨ L ≤ (i + 1).toNatClampNeg then none else
  if i + 2 < 0 ∨ L ≤ (i + 2).toNatClampNeg then none else
  (f_X10_courseAt N S.2.1 (xs (i + 1).toNatClampNeg) (xs (i + 2).toNatClampNeg)).bind (fun (q_1526 : Int32 × gSt) =>
  if f_X10_thrown q_1526.2 = f_L_courseAt q_1508.1 then
    gJoin0 (
        jn (q_1508.2.2, q_1526.2, o_L_courseAt q_1508.1 q_1508.2.1 S.2.2)) (fun j1559 =>
      if f_L_courseAt q_1508.1 = 0 then
        if lg_cmp (o_L_courseAt q_1508.1 q_1508.2.1 S.2.2 0) q_1526.1.toInt64 = 0 then
          j1559
        else
          some 0
      else
        j1559)
  else
    some 0))
set_option maxRecDepth 100000 in
set_option maxHeartbeats 8000000 in
theorem w_L_case18 {p : Program} {e : Env} {s : State} {m : MethodId} {below : List Frame} {meth : Method} {c : Code} {l : Launch} {b L : Nat} {xs : Nat → Int32} {D : va_G} {a : Nat → Nat} {cI cZ cJ : ClassId} {sa : Nat → Nat} {Q : State → Prop} {N : Nat} {i : Int32} {S : lSt} {jn : lSt → Option Int32} {out : Int32} {K SL : Nat} (F : g_LF p l m c s #[Value.ref b] D a cI cZ cJ sa) (hX : va_X b L xs s s.heap) (hbl : b < s.heap.size) (hK : K + 8 ≤ 601024) (hSL : SL + 48 ≤ 7293000)
    (hq : ∀ {S : lSt} (H : Heap) (locs : List Loc) (pc : Nat) (ls : Array Slot) (cl sl : Nat), cl ≤ 601024 → sl ≤ 7293000 → g_LS D a (lE a cI cZ cJ S) s H locs → decode cL_law pc = .ok (.ireturn, 1) → W p l e room_1 s m #[Value.ref b] below meth c H locs cl sl Q (F0 m pc ls [.int out]))
    (J2060 : ∀ {S : lSt} (H : Heap) (locs : List Loc) (ls : Array Slot), True → jn S = some out → g_LS D a (lE a cI cZ cJ S) s H locs → lv_has ls 7 [(0, .ref b), (1, .ref (a 0)), (2, .ref (a 66)), (3, .ref (a 65)), (4, .int i)] → W p l e room_1 s m #[Value.ref b] below meth c H locs (K + 8) (SL + 48) Q (F0 m 2060 ls []))
    (h : f_L_case18 N L xs i S jn = some out) {H : Heap} {locs : List Loc} {ls : Array Slot} (hI : g_LS D a (lE a cI cZ cJ S) s H locs) (hl : lv_has ls 7 [(0, .ref b), (1, .ref (a 0)), (2, .ref (a 66)), (3, .ref (a 65)), (4, .int i)]) : W p l e room_1 s m #[Value.ref b] below meth c H locs K SL Q (F0 m 1494 ls []) := by
  have hx := F.1.1
  have hb := F.1.2.1
  have hbA : ¬ (fun q => s.heap.size ≤ q) b := Nat.not_le.mpr hbl
  unfold f_L_case18 at h
  refine lv_aload_n hx hb dL_law_1494 rfl (lv_at hl 1 rfl) ?_
  refine lv_aload_n hx hb dL_law_1495 rfl (lv_at hl 0 rfl) ?_
  refine lv_iload hx hb dL_law_1496 (lv_at hl 4 rfl) ?_
  refine lv_iconst (v := 1) hx hb dL_law_1498 (by decide) ?_
  refine lv_iadd hx hb dL_law_1499 ?_
  obtain ⟨g_1500, h⟩ := g_guard h
  refine va_sld hx hb hX hbl hbA hI.2 g_1500 dL_law_1500 ?_
  refine lv_aload_n hx hb dL_law_1501 rfl (lv_at hl 0 rfl) ?_
  refine lv_iload hx hb dL_law_1502 (lv_at hl 4 rfl) ?_
  refine lv_iconst (v := 2) hx hb dL_law_1504 (by decide) ?_
  refine lv_iadd hx hb dL_law_1505 ?_
  obtain ⟨g_1506, h⟩ := g_guard h
  refine va_sld hx hb hX hbl hbA hI.2 g_1506 dL_law_1506 ?_
  refine lv_aload_n hx hb dL_law_1507 rfl (lv_at hl 3 rfl) ?_
  obtain ⟨q_1508, e_1508, h⟩ := gBind_in h
  obtain ⟨g_1508, h⟩ := g_guard h
  refine g_lcW (S := S) (σ' := q_1508.2.2) (f' := o_L_courseAt q_1508.1 q_1508.2.1 S.2.2) (As := [.ref (a 0), .int (xs (i + 1).toNatClampNeg), .int (xs (i + 2).toNatClampNeg), .ref (a 65)]) (rest := []) F hI (c_L_courseAt l D a cI cJ (g_inj_sub (by decide) F.2.2.1) F.2.2.2.2.2.2.2 sa (xs (i + 1).toNatClampNeg) (xs (i + 2).toNatClampNeg) S.1 S.2.2 q_1508 (Option.some.inj e_1508) (Decidable.not_not.mp g_1508)) kh_L_courseAt kn_L kd_L_courseAt kt_L_courseAt km_L_178 ⟨(Nat.le_of_ble_eq_true rfl), (Nat.le_of_ble_eq_true rfl), rfl, rfl⟩ hl.1 rfl (Nat.le_of_ble_eq_true rfl) ⟨(by show _ ≤ 601024; omega), (by show _ ≤ 7293000; omega)⟩ dL_law_1508 (fun H locs hI => ?_)
  have hI : g_LS D a (lE a cI cZ cJ (q_1508.2.2, S.2.1, o_L_courseAt q_1508.1 q_1508.2.1 S.2.2)) s H locs := hI
  refine lv_istore (lv' := [(5, .int (f_L_courseAt q_1508.1)), (0, .ref b), (1, .ref (a 0)), (2, .ref (a 66)), (3, .ref (a 65)), (4, .int i)]) hx hb dL_law_1511 hl (by decide) rfl (fun ls hl => ?_)
  refine lv_aload_n hx hb dL_law_1513 rfl (lv_at hl 3 rfl) ?_
  refine lv_aload_n hx hb dL_law_1514 rfl (lv_at hl 1 rfl) ?_
  refine lv_iload hx hb dL_law_1515 (lv_at hl 5 rfl) ?_
  refine lv_iconst (v := 1) hx hb dL_law_1517 (by decide) ?_
  refine lv_iadd hx hb dL_law_1518 ?_
  obtain ⟨g_1519, h⟩ := g_guard h
  refine va_sld hx hb hX hbl hbA hI.2 g_1519 dL_law_1519 ?_
  refine lv_aload_n hx hb dL_law_1520 rfl (lv_at hl 1 rfl) ?_
  refine lv_iload hx hb dL_law_1521 (lv_at hl 5 rfl) ?_
  refine lv_iconst (v := 2) hx hb dL_law_1523 (by decide) ?_
  refine lv_iadd hx hb dL_law_1524 ?_
  obtain ⟨g_1525, h⟩ := g_guard h
  refine va_sld hx hb hX hbl hbA hI.2 g_1525 dL_law_1525 ?_
  obtain ⟨q_1526, e_1526, h⟩ := gBind_in h
  refine g_lcM (S := (q_1508.2.2, S.2.1, o_L_courseAt q_1508.1 q_1508.2.1 S.2.2)) (τ' := q_1526.2) (As := [.int (xs (i + 1).toNatClampNeg), .int (xs (i + 2).toNatClampNeg)]) (rest := []) F hI (c_X10_courseAt l D (fun j => a (66 + j)) cI cZ (g_inj_m F.2.2.1) N S.2.1 (xs (i + 1).toNatClampNeg) (xs (i + 2).toNatClampNeg) q_1526 e_1526) kb_X10_courseAt ki_X10_courseAt ks_X10_courseAt km_L_180 ⟨(Nat.le_of_ble_eq_true rfl), (Nat.le_of_ble_eq_true rfl), rfl, rfl⟩ hl.1 rfl (Nat.le_of_ble_eq_true rfl) ⟨(by show _ ≤ 601024; omega), (by show _ ≤ 7293000; omega)⟩ dL_law_1526 (fun H locs hI => ?_)
  have hI : g_LS D a (lE a cI cZ cJ (q_1508.2.2, q_1526.2, o_L_courseAt q_1508.1 q_1508.2.1 S.2.2)) s H locs := hI
  refine lv_istore (lv' := [(6, .int q_1526.1), (5, .int (f_L_courseAt q_1508.1)), (0, .ref b), (1, .ref (a 0)), (2, .ref (a 66)), (3, .ref (a 65)), (4, .int i)]) hx hb dL_law_1529 hl (by decide) rfl (fun ls hl => ?_)
  refine lv_aload_n hx hb dL_law_1531 rfl (lv_at hl 4 rfl) ?_
  refine g_lcM (S := (q_1508.2.2, q_1526.2, o_L_courseAt q_1508.1 q_1508.2.1 S.2.2)) (τ' := q_1526.2) (As := []) (rest := []) F hI (c_X10_thrown l D (fun j => a (66 + j)) cI cZ (g_inj_m F.2.2.1) q_1526.2) kb_X10_thrown ki_X10_thrown ks_X10_thrown km_L_118 ⟨(Nat.le_of_ble_eq_true rfl), (Nat.le_of_ble_eq_true rfl), rfl, rfl⟩ hl.1 rfl (Nat.le_of_ble_eq_true rfl) ⟨(by show _ ≤ 601024; omega), (by show _ ≤ 7293000; omega)⟩ dL_law_1532 (fun H locs hI => ?_)
  have hI : g_LS D a (lE a cI cZ cJ (q_1508.2.2, q_1526.2, o_L_courseAt q_1508.1 q_1508.2.1 S.2.2)) s H locs := hI
  refine lv_iload hx hb dL_law_1535 (lv_at hl 1 rfl) ?_
  refine lv_icmp_eq (tgt := 1542) hx hb dL_law_1537 (by decide) (fun c_1537 => ?_) (fun c_1537 => ?_)
  · have h := (if_pos c_1537).symm.trans h
    refine lv_iload hx hb dL_law_1542 (lv_at hl 1 rfl) ?_
    obtain ⟨j1559, hj1559, h⟩ := gJoin0_in h
    have J1559 : ∀ (H : Heap) (locs : List Loc) (ls : Array Slot), j1559  = some out → g_LS D a (lE a cI cZ cJ (q_1508.2.2, q_1526.2, o_L_courseAt q_1508.1 q_1508.2.1 S.2.2)) s H locs → lv_has ls 7 [(0, .ref b), (1, .ref (a 0)), (2, .ref (a 66)), (3, .ref (a 65)), (4, .int i)] → W p l e room_1 s m #[Value.ref b] below meth c H locs (K + 2) (SL + 12) Q (F0 m 1559 ls []) := by
      intro  H locs ls h hI hl
      rw [hj1559] at h
      refine lv_goto (tgt := 2060) hx hb dL_law_1559 (by decide) ?_
      refine W.widen (k := K + 8) (n := SL + 48) (by omega) (by omega) ?_
      exact J2060 _ _ _ trivial h hI (lv_sub hl [0, 1, 2, 3, 4] rfl)
    refine lv_if_ne (tgt := 1559) hx hb dL_law_1544 (by decide) (fun c_1544 => ?_) (fun c_1544 => ?_)
    · have h := (if_neg c_1544).symm.trans h
      exact J1559 _ _ _ h hI (lv_sub hl [2, 3, 4, 5, 6] rfl)
    · have h := (if_pos c_1544).symm.trans h
      refine lv_aload_n hx hb dL_law_1547 rfl (lv_at hl 5 rfl) ?_
      refine lv_iconst (v := 0) hx hb dL_law_1548 (by decide) ?_
      refine g_llald F hI dL_law_1549 ?_
      refine lv_iload hx hb dL_law_1550 (lv_at hl 0 rfl) ?_
      refine lv_i2l hx hb dL_law_1552 rfl ?_
      refine W.lcmp hx hb dL_law_1553 ?_
      refine lv_if_eq (tgt := 1559) hx hb dL_law_1554 (by decide) (fun c_1554 => ?_) (fun c_1554 => ?_)
      · have h := (if_pos c_1554).symm.trans h
        exact J1559 _ _ _ h hI (lv_sub hl [2, 3, 4, 5, 6] rfl)
      · have h := (if_neg c_1554).symm.trans h
        refine lv_iconst (v := 0) hx hb dL_law_1557 (by decide) ?_
        have h := Option.some.inj h
        subst h
        exact hq _ _ _ _ _ _ (by omega) (by omega) hI dL_law_1558
  · have h := (if_neg c_1537).symm.trans h
    refine lv_iconst (v := 0) hx hb dL_law_1540 (by decide) ?_
    have h := Option.some.inj h
    subst h
    exact hq _ _ _ _ _ _ (by omega) (by omega) hI dL_law_1541
theorem kd_L_courseClimb : yL_courseClimb.cls ≠ "java/lang/invoke/MethodHandle" ∧ yL_courseClimb.cls ≠ "java/lang/invoke/VarHandle" ∧ (parseMethodDescriptor yL_courseClimb.desc).map (fun d => d.parameters.length) = some 3 := by decide +kernel
def f_L_case19 (N L : Nat) (xs : Nat → Int32) (i : Int32) (S : lSt) (jn : lSt → Option Int32) : Option Int32 :=
  if i + 1 < 0 ∨ L ≤ (i + 1).toNatClampNeg then none else
  (f_X9_courseClimb N S.1 (xs (i + 1).toNatClampNeg)).bind (fun (q_1570 : Nat × Int32 × gSt) =>
  if ¬ (q_1570.1 = 0 ∨ q_1570.1 = 1) then none else
  if i + 1 < 0 ∨ L ≤ (i + 1).toNatClampNeg then none else
  (f_X10_courseClimb N S.2.1 (xs (i + 1).toNatClampNeg)).bind (fun (q_1582 : Int32 × gSt) =>
  if f_X10_thrown q_1582.2 = f_L_courseClimb q_1570.1 then
    gJoin0 (
        jn (q_1570.2.2, q_1582.2, o_L_courseClimb q_1570.1 q_1570.2.1 S.2.2)) (fun j1615 =>
      if f_L_courseClimb q_1570.1 = 0 then
        if lg_cmp (o_L_courseClimb q_1570.1 q_1570.2.1 S.2.2 0) q_1582.1.toInt64 = 0 then
          j1615
        else
          some 0
      else
        j1615)
  else
    some 0))
set_option maxRecDepth 100000 in
set_option maxHeartbeats 8000000 in
theorem w_L_case19 {p : Program} {e : Env} {s : State} {m : MethodId} {below : List Frame} {meth : Method} {c : Code} {l : Launch} {b L : Nat} {xs : Nat → Int32} {D : va_G} {a : Nat → Nat} {cI cZ cJ : ClassId} {sa : Nat → Nat} {Q : State → Prop} {N : Nat} {i : Int32} {S : lSt} {jn : lSt → Option Int32} {out : Int32} {K SL : Nat} (F : g_LF p l m c s #[Value.ref b] D a cI cZ cJ sa) (hX : va_X b L xs s s.heap) (hbl : b < s.heap.size) (hK : K + 8 ≤ 601024) (hSL : SL + 48 ≤ 7293000)
    (hq : ∀ {S : lSt} (H : Heap) (locs : List Loc) (pc : Nat) (ls : Array Slot) (cl sl : Nat), cl ≤ 601024 → sl ≤ 7293000 → g_LS D a (lE a cI cZ cJ S) s H locs → decode cL_law pc = .ok (.ireturn, 1) → W p l e room_1 s m #[Value.ref b] below meth c H locs cl sl Q (F0 m pc ls [.int out]))
    (J2060 : ∀ {S : lSt} (H : Heap) (locs : List Loc) (ls : Array Slot), True → jn S = some out → g_LS D a (lE a cI cZ cJ S) s H locs → lv_has ls 7 [(0, .ref b), (1, .ref (a 0)), (2, .ref (a 66)), (3, .ref (a 65)), (4, .int i)] → W p l e room_1 s m #[Value.ref b] below meth c H locs (K + 8) (SL + 48) Q (F0 m 2060 ls []))
    (h : f_L_case19 N L xs i S jn = some out) {H : Heap} {locs : List Loc} {ls : Array Slot} (hI : g_LS D a (lE a cI cZ cJ S) s H locs) (hl : lv_has ls 7 [(0, .ref b), (1, .ref (a 0)), (2, .ref (a 66)), (3, .ref (a 65)), (4, .int i)]) : W p l e room_1 s m #[Value.ref b] below meth c H locs K SL Q (F0 m 1562 ls []) := by
  have hx := F.1.1
  have hb := F.1.2.1
  have hbA : ¬ (fun q => s.heap.size ≤ q) b := Nat.not_le.mpr hbl
  unfold f_L_case19 at h
  refine lv_aload_n hx hb dL_law_1562 rfl (lv_at hl 1 rfl) ?_
  refine lv_aload_n hx hb dL_law_1563 rfl (lv_at hl 0 rfl) ?_
  refine lv_iload hx hb dL_law_1564 (lv_at hl 4 rfl) ?_
  refine lv_iconst (v := 1) hx hb dL_law_1566 (by decide) ?_
  refine lv_iadd hx hb dL_law_1567 ?_
  obtain ⟨g_1568, h⟩ := g_guard h
  refine va_sld hx hb hX hbl hbA hI.2 g_1568 dL_law_1568 ?_
  refine lv_aload_n hx hb dL_law_1569 rfl (lv_at hl 3 rfl) ?_
  obtain ⟨q_1570, e_1570, h⟩ := gBind_in h
  obtain ⟨g_1570, h⟩ := g_guard h
  refine g_lcW (S := S) (σ' := q_1570.2.2) (f' := o_L_courseClimb q_1570.1 q_1570.2.1 S.2.2) (As := [.ref (a 0), .int (xs (i + 1).toNatClampNeg), .ref (a 65)]) (rest := []) F hI (c_L_courseClimb l D a cI cJ (g_inj_sub (by decide) F.2.2.1) F.2.2.2.2.2.2.2 sa N (xs (i + 1).toNatClampNeg) S.1 S.2.2 q_1570 e_1570 (Decidable.not_not.mp g_1570)) kh_L_courseClimb kn_L kd_L_courseClimb kt_L_courseClimb km_L_181 ⟨(Nat.le_of_ble_eq_true rfl), (Nat.le_of_ble_eq_true rfl), rfl, rfl⟩ hl.1 rfl (Nat.le_of_ble_eq_true rfl) ⟨(by show _ ≤ 601024; omega), (by show _ ≤ 7293000; omega)⟩ dL_law_1570 (fun H locs hI => ?_)
  have hI : g_LS D a (lE a cI cZ cJ (q_1570.2.2, S.2.1, o_L_courseClimb q_1570.1 q_1570.2.1 S.2.2)) s H locs := hI
  refine lv_istore (lv' := [(5, .int (f_L_courseClimb q_1570.1)), (0, .ref b), (1, .ref (a 0)), (2, .ref (a 66)), (3, .ref (a 65)), (4, .int i)]) hx hb dL_law_1573 hl (by decide) rfl (fun ls hl => ?_)
  refine lv_aload_n hx hb dL_law_1575 rfl (lv_at hl 3 rfl) ?_
  refine lv_aload_n hx hb dL_law_1576 rfl (lv_at hl 1 rfl) ?_
  refine lv_iload hx hb dL_law_1577 (lv_at hl 5 rfl) ?_
  refine lv_iconst (v := 1) hx hb dL_law_1579 (by decide) ?_
  refine lv_iadd hx hb dL_law_1580 ?_
  obtain ⟨g_1581, h⟩ := g_guard h
  refine va_sld hx hb hX hbl hbA hI.2 g_1581 dL_law_1581 ?_
  obtain ⟨q_1582, e_1582, h⟩ := gBind_in h
  refine g_lcM (S := (q_1570.2.2, S.2.1, o_L_courseClimb q_1570.1 q_1570.2.1 S.2.2)) (τ' := q_1582.2) (As := [.int (xs (i + 1).toNatClampNeg)]) (rest := []) F hI (c_X10_courseClimb l D (fun j => a (66 + j)) cI cZ (g_inj_m F.2.2.1) N S.2.1 (xs (i + 1).toNatClampNeg) q_1582 e_1582) kb_X10_courseClimb ki_X10_courseClimb ks_X10_courseClimb km_L_183 ⟨(Nat.le_of_ble_eq_true rfl), (Nat.le_of_ble_eq_true rfl), rfl, rfl⟩ hl.1 rfl (Nat.le_of_ble_eq_true rfl) ⟨(by show _ ≤ 601024; omega), (by show _ ≤ 7293000; omega)⟩ dL_law_1582 (fun H locs hI => ?_)
  have hI : g_LS D a (lE a cI cZ cJ (q_1570.2.2, q_1582.2, o_L_courseClimb q_1570.1 q_1570.2.1 S.2.2)) s H locs := hI
  refine lv_istore (lv' := [(6, .int q_1582.1), (5, .int (f_L_courseClimb q_1570.1)), (0, .ref b), (1, .ref (a 0)), (2, .ref (a 66)), (3, .ref (a 65)), (4, .int i)]) hx hb dL_law_1585 hl (by decide) rfl (fun ls hl => ?_)
  refine lv_aload_n hx hb dL_law_1587 rfl (lv_at hl 4 rfl) ?_
  refine g_lcM (S := (q_1570.2.2, q_1582.2, o_L_courseClimb q_1570.1 q_1570.2.1 S.2.2)) (τ' := q_1582.2) (As := []) (rest := []) F hI (c_X10_thrown l D (fun j => a (66 + j)) cI cZ (g_inj_m F.2.2.1) q_1582.2) kb_X10_thrown ki_X10_thrown ks_X10_thrown km_L_118 ⟨(Nat.le_of_ble_eq_true rfl), (Nat.le_of_ble_eq_true rfl), rfl, rfl⟩ hl.1 rfl (Nat.le_of_ble_eq_true rfl) ⟨(by show _ ≤ 601024; omega), (by show _ ≤ 7293000; omega)⟩ dL_law_1588 (fun H locs hI => ?_)
  have hI : g_LS D a (lE a cI cZ cJ (q_1570.2.2, q_1582.2, o_L_courseClimb q_1570.1 q_1570.2.1 S.2.2)) s H locs := hI
  refine lv_iload hx hb dL_law_1591 (lv_at hl 1 rfl) ?_
  refine lv_icmp_eq (tgt := 1598) hx hb dL_law_1593 (by decide) (fun c_1593 => ?_) (fun c_1593 => ?_)
  · have h := (if_pos c_1593).symm.trans h
    refine lv_iload hx hb dL_law_1598 (lv_at hl 1 rfl) ?_
    obtain ⟨j1615, hj1615, h⟩ := gJoin0_in h
    have J1615 : ∀ (H : Heap) (locs : List Loc) (ls : Array Slot), j1615  = some out → g_LS D a (lE a cI cZ cJ (q_1570.2.2, q_1582.2, o_L_courseClimb q_1570.1 q_1570.2.1 S.2.2)) s H locs → lv_has ls 7 [(0, .ref b), (1, .ref (a 0)), (2, .ref (a 66)), (3, .ref (a 65)), (4, .int i)] → W p l e room_1 s m #[Value.ref b] below meth c H locs (K + 1) (SL + 6) Q (F0 m 1615 ls []) := by
      intro  H locs ls h hI hl
      rw [hj1615] at h
      refine lv_goto (tgt := 2060) hx hb dL_law_1615 (by decide) ?_
      refine W.widen (k := K + 8) (n := SL + 48) (by omega) (by omega) ?_
      exact J2060 _ _ _ trivial h hI (lv_sub hl [0, 1, 2, 3, 4] rfl)
    refine lv_if_ne (tgt := 1615) hx hb dL_law_1600 (by decide) (fun c_1600 => ?_) (fun c_1600 => ?_)
    · have h := (if_neg c_1600).symm.trans h
      exact J1615 _ _ _ h hI (lv_sub hl [2, 3, 4, 5, 6] rfl)
    · have h := (if_pos c_1600).symm.trans h
      refine lv_aload_n hx hb dL_law_1603 rfl (lv_at hl 5 rfl) ?_
      refine lv_iconst (v := 0) hx hb dL_law_1604 (by decide) ?_
      refine g_llald F hI dL_law_1605 ?_
      refine lv_iload hx hb dL_law_1606 (lv_at hl 0 rfl) ?_
      refine lv_i2l hx hb dL_law_1608 rfl ?_
      refine W.lcmp hx hb dL_law_1609 ?_
      refine lv_if_eq (tgt := 1615) hx hb dL_law_1610 (by decide) (fun c_1610 => ?_) (fun c_1610 => ?_)
      · have h := (if_pos c_1610).symm.trans h
        exact J1615 _ _ _ h hI (lv_sub hl [2, 3, 4, 5, 6] rfl)
      · have h := (if_neg c_1610).symm.trans h
        refine lv_iconst (v := 0) hx hb dL_law_1613 (by decide) ?_
        have h := Option.some.inj h
        subst h
        exact hq _ _ _ _ _ _ (by omega) (by omega) hI dL_law_1614
  · have h := (if_neg c_1593).symm.trans h
    refine lv_iconst (v := 0) hx hb dL_law_1596 (by decide) ?_
    have h := Option.some.inj h
    subst h
    exact hq _ _ _ _ _ _ (by omega) (by omega) hI dL_law_1597
