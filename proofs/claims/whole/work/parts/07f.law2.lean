theorem kd_L_courseCost : yL_courseCost.cls ≠ "java/lang/invoke/MethodHandle" ∧ yL_courseCost.cls ≠ "java/lang/invoke/VarHandle" ∧ (parseMethodDescriptor yL_courseCost.desc).map (fun d => d.parameters.length) = some 3 := by decide +kernel
def f_L_case20 (N L : Nat) (xs : Nat → Int32) (i : Int32) (S : lSt) (jn : lSt → Option Int32) : Option Int32 :=
  if i + 1 < 0 ∨ L ≤ (i + 1).toNatClampNeg then none else
  (f_X9_courseCost N S.1 (xs (i + 1).toNatClampNeg)).bind (fun (q_1626 : Nat × Int32 × gSt) =>
  if ¬ (q_1626.1 = 0 ∨ q_1626.1 = 1) then none else
  if i + 1 < 0 ∨ L ≤ (i + 1).toNatClampNeg then none else
  (f_X10_courseCost N S.2.1 (xs (i + 1).toNatClampNeg)).bind (fun (q_1638 : Int32 × gSt) =>
  if f_X10_thrown q_1638.2 = f_L_courseCost q_1626.1 then
    gJoin0 (
        jn (q_1626.2.2, q_1638.2, o_L_courseCost q_1626.1 q_1626.2.1 S.2.2)) (fun j1671 =>
      if f_L_courseCost q_1626.1 = 0 then
        if lg_cmp (o_L_courseCost q_1626.1 q_1626.2.1 S.2.2 0) q_1638.1.toInt64 = 0 then
          j1671
        else
          some 0
      else
        j1671)
  else
    some 0))
set_option maxRecDepth 100000 in
set_option maxHeartbeats 8000000 in
theorem w_L_case20 {p : Program} {e : Env} {s : State} {m : MethodId} {below : List Frame} {meth : Method} {c : Code} {l : Launch} {b L : Nat} {xs : Nat → Int32} {D : va_G} {a : Nat → Nat} {cI cZ cJ : ClassId} {sa : Nat → Nat} {Q : State → Prop} {N : Nat} {i : Int32} {S : lSt} {jn : lSt → Option Int32} {out : Int32} {K SL : Nat} (F : g_LF p l m c s #[Value.ref b] D a cI cZ cJ sa) (hX : va_X b L xs s s.heap) (hbl : b < s.heap.size) (hK : K + 8 ≤ 601024) (hSL : SL + 48 ≤ 7293000)
    (hq : ∀ {S : lSt} (H : Heap) (locs : List Loc) (pc : Nat) (ls : Array Slot) (cl sl : Nat), cl ≤ 601024 → sl ≤ 7293000 → g_LS D a (lE a cI cZ cJ S) s H locs → decode cL_law pc = .ok (.ireturn, 1) → W p l e room_1 s m #[Value.ref b] below meth c H locs cl sl Q (F0 m pc ls [.int out]))
    (J2060 : ∀ {S : lSt} (H : Heap) (locs : List Loc) (ls : Array Slot), True → jn S = some out → g_LS D a (lE a cI cZ cJ S) s H locs → lv_has ls 7 [(0, .ref b), (1, .ref (a 0)), (2, .ref (a 66)), (3, .ref (a 65)), (4, .int i)] → W p l e room_1 s m #[Value.ref b] below meth c H locs (K + 8) (SL + 48) Q (F0 m 2060 ls []))
    (h : f_L_case20 N L xs i S jn = some out) {H : Heap} {locs : List Loc} {ls : Array Slot} (hI : g_LS D a (lE a cI cZ cJ S) s H locs) (hl : lv_has ls 7 [(0, .ref b), (1, .ref (a 0)), (2, .ref (a 66)), (3, .ref (a 65)), (4, .int i)]) : W p l e room_1 s m #[Value.ref b] below meth c H locs K SL Q (F0 m 1618 ls []) := by
  have hx := F.1.1
  have hb := F.1.2.1
  have hbA : ¬ (fun q => s.heap.size ≤ q) b := Nat.not_le.mpr hbl
  unfold f_L_case20 at h
  refine lv_aload_n hx hb dL_law_1618 rfl (lv_at hl 1 rfl) ?_
  refine lv_aload_n hx hb dL_law_1619 rfl (lv_at hl 0 rfl) ?_
  refine lv_iload hx hb dL_law_1620 (lv_at hl 4 rfl) ?_
  refine lv_iconst (v := 1) hx hb dL_law_1622 (by decide) ?_
  refine lv_iadd hx hb dL_law_1623 ?_
  obtain ⟨g_1624, h⟩ := g_guard h
  refine va_sld hx hb hX hbl hbA hI.2 g_1624 dL_law_1624 ?_
  refine lv_aload_n hx hb dL_law_1625 rfl (lv_at hl 3 rfl) ?_
  obtain ⟨q_1626, e_1626, h⟩ := gBind_in h
  obtain ⟨g_1626, h⟩ := g_guard h
  refine g_lcW (S := S) (σ' := q_1626.2.2) (f' := o_L_courseCost q_1626.1 q_1626.2.1 S.2.2) (As := [.ref (a 0), .int (xs (i + 1).toNatClampNeg), .ref (a 65)]) (rest := []) F hI (c_L_courseCost l D a cI cJ (g_inj_sub (by decide) F.2.2.1) F.2.2.2.2.2.2.2 sa N (xs (i + 1).toNatClampNeg) S.1 S.2.2 q_1626 e_1626 (Decidable.not_not.mp g_1626)) kh_L_courseCost kn_L kd_L_courseCost kt_L_courseCost km_L_184 ⟨(Nat.le_of_ble_eq_true rfl), (Nat.le_of_ble_eq_true rfl), rfl, rfl⟩ hl.1 rfl (Nat.le_of_ble_eq_true rfl) ⟨(by show _ ≤ 601024; omega), (by show _ ≤ 7293000; omega)⟩ dL_law_1626 (fun H locs hI => ?_)
  have hI : g_LS D a (lE a cI cZ cJ (q_1626.2.2, S.2.1, o_L_courseCost q_1626.1 q_1626.2.1 S.2.2)) s H locs := hI
  refine lv_istore (lv' := [(5, .int (f_L_courseCost q_1626.1)), (0, .ref b), (1, .ref (a 0)), (2, .ref (a 66)), (3, .ref (a 65)), (4, .int i)]) hx hb dL_law_1629 hl (by decide) rfl (fun ls hl => ?_)
  refine lv_aload_n hx hb dL_law_1631 rfl (lv_at hl 3 rfl) ?_
  refine lv_aload_n hx hb dL_law_1632 rfl (lv_at hl 1 rfl) ?_
  refine lv_iload hx hb dL_law_1633 (lv_at hl 5 rfl) ?_
  refine lv_iconst (v := 1) hx hb dL_law_1635 (by decide) ?_
  refine lv_iadd hx hb dL_law_1636 ?_
  obtain ⟨g_1637, h⟩ := g_guard h
  refine va_sld hx hb hX hbl hbA hI.2 g_1637 dL_law_1637 ?_
  obtain ⟨q_1638, e_1638, h⟩ := gBind_in h
  refine g_lcM (S := (q_1626.2.2, S.2.1, o_L_courseCost q_1626.1 q_1626.2.1 S.2.2)) (τ' := q_1638.2) (As := [.int (xs (i + 1).toNatClampNeg)]) (rest := []) F hI (c_X10_courseCost l D (fun j => a (66 + j)) cI cZ (g_inj_m F.2.2.1) N S.2.1 (xs (i + 1).toNatClampNeg) q_1638 e_1638) kb_X10_courseCost ki_X10_courseCost ks_X10_courseCost km_L_186 ⟨(Nat.le_of_ble_eq_true rfl), (Nat.le_of_ble_eq_true rfl), rfl, rfl⟩ hl.1 rfl (Nat.le_of_ble_eq_true rfl) ⟨(by show _ ≤ 601024; omega), (by show _ ≤ 7293000; omega)⟩ dL_law_1638 (fun H locs hI => ?_)
  have hI : g_LS D a (lE a cI cZ cJ (q_1626.2.2, q_1638.2, o_L_courseCost q_1626.1 q_1626.2.1 S.2.2)) s H locs := hI
  refine lv_istore (lv' := [(6, .int q_1638.1), (5, .int (f_L_courseCost q_1626.1)), (0, .ref b), (1, .ref (a 0)), (2, .ref (a 66)), (3, .ref (a 65)), (4, .int i)]) hx hb dL_law_1641 hl (by decide) rfl (fun ls hl => ?_)
  refine lv_aload_n hx hb dL_law_1643 rfl (lv_at hl 4 rfl) ?_
  refine g_lcM (S := (q_1626.2.2, q_1638.2, o_L_courseCost q_1626.1 q_1626.2.1 S.2.2)) (τ' := q_1638.2) (As := []) (rest := []) F hI (c_X10_thrown l D (fun j => a (66 + j)) cI cZ (g_inj_m F.2.2.1) q_1638.2) kb_X10_thrown ki_X10_thrown ks_X10_thrown km_L_118 ⟨(Nat.le_of_ble_eq_true rfl), (Nat.le_of_ble_eq_true rfl), rfl, rfl⟩ hl.1 rfl (Nat.le_of_ble_eq_true rfl) ⟨(by show _ ≤ 601024; omega), (by show _ ≤ 7293000; omega)⟩ dL_law_1644 (fun H locs hI => ?_)
  have hI : g_LS D a (lE a cI cZ cJ (q_1626.2.2, q_1638.2, o_L_courseCost q_1626.1 q_1626.2.1 S.2.2)) s H locs := hI
  refine lv_iload hx hb dL_law_1647 (lv_at hl 1 rfl) ?_
  refine lv_icmp_eq (tgt := 1654) hx hb dL_law_1649 (by decide) (fun c_1649 => ?_) (fun c_1649 => ?_)
  · have h := (if_pos c_1649).symm.trans h
    refine lv_iload hx hb dL_law_1654 (lv_at hl 1 rfl) ?_
    obtain ⟨j1671, hj1671, h⟩ := gJoin0_in h
    have J1671 : ∀ (H : Heap) (locs : List Loc) (ls : Array Slot), j1671  = some out → g_LS D a (lE a cI cZ cJ (q_1626.2.2, q_1638.2, o_L_courseCost q_1626.1 q_1626.2.1 S.2.2)) s H locs → lv_has ls 7 [(0, .ref b), (1, .ref (a 0)), (2, .ref (a 66)), (3, .ref (a 65)), (4, .int i)] → W p l e room_1 s m #[Value.ref b] below meth c H locs (K + 1) (SL + 6) Q (F0 m 1671 ls []) := by
      intro  H locs ls h hI hl
      rw [hj1671] at h
      refine lv_goto (tgt := 2060) hx hb dL_law_1671 (by decide) ?_
      refine W.widen (k := K + 8) (n := SL + 48) (by omega) (by omega) ?_
      exact J2060 _ _ _ trivial h hI (lv_sub hl [0, 1, 2, 3, 4] rfl)
    refine lv_if_ne (tgt := 1671) hx hb dL_law_1656 (by decide) (fun c_1656 => ?_) (fun c_1656 => ?_)
    · have h := (if_neg c_1656).symm.trans h
      exact J1671 _ _ _ h hI (lv_sub hl [2, 3, 4, 5, 6] rfl)
    · have h := (if_pos c_1656).symm.trans h
      refine lv_aload_n hx hb dL_law_1659 rfl (lv_at hl 5 rfl) ?_
      refine lv_iconst (v := 0) hx hb dL_law_1660 (by decide) ?_
      refine g_llald F hI dL_law_1661 ?_
      refine lv_iload hx hb dL_law_1662 (lv_at hl 0 rfl) ?_
      refine lv_i2l hx hb dL_law_1664 rfl ?_
      refine W.lcmp hx hb dL_law_1665 ?_
      refine lv_if_eq (tgt := 1671) hx hb dL_law_1666 (by decide) (fun c_1666 => ?_) (fun c_1666 => ?_)
      · have h := (if_pos c_1666).symm.trans h
        exact J1671 _ _ _ h hI (lv_sub hl [2, 3, 4, 5, 6] rfl)
      · have h := (if_neg c_1666).symm.trans h
        refine lv_iconst (v := 0) hx hb dL_law_1669 (by decide) ?_
        have h := Option.some.inj h
        subst h
        exact hq _ _ _ _ _ _ (by omega) (by omega) hI dL_law_1670
  · have h := (if_neg c_1649).symm.trans h
    refine lv_iconst (v := 0) hx hb dL_law_1652 (by decide) ?_
    have h := Option.some.inj h
    subst h
    exact hq _ _ _ _ _ _ (by omega) (by omega) hI dL_law_1653
def f_L_case21 (N L : Nat) (xs : Nat → Int32) (i : Int32) (S : lSt) (jn : lSt → Option Int32) : Option Int32 :=
  (f_X9_spread N S.1).bind (fun (q_1675 : Int32 × gSt) =>
  (f_X10_spread N S.2.1).bind (fun (q_1679 : Int32 × gSt) =>
  if q_1675.1 = q_1679.1 then
    jn (q_1675.2, q_1679.2, S.2.2)
  else
    some 0))
set_option maxRecDepth 100000 in
set_option maxHeartbeats 8000000 in
theorem w_L_case21 {p : Program} {e : Env} {s : State} {m : MethodId} {below : List Frame} {meth : Method} {c : Code} {l : Launch} {b L : Nat} {xs : Nat → Int32} {D : va_G} {a : Nat → Nat} {cI cZ cJ : ClassId} {sa : Nat → Nat} {Q : State → Prop} {N : Nat} {i : Int32} {S : lSt} {jn : lSt → Option Int32} {out : Int32} {K SL : Nat} (F : g_LF p l m c s #[Value.ref b] D a cI cZ cJ sa) (hX : va_X b L xs s s.heap) (hbl : b < s.heap.size) (hK : K + 8 ≤ 601024) (hSL : SL + 48 ≤ 7293000)
    (hq : ∀ {S : lSt} (H : Heap) (locs : List Loc) (pc : Nat) (ls : Array Slot) (cl sl : Nat), cl ≤ 601024 → sl ≤ 7293000 → g_LS D a (lE a cI cZ cJ S) s H locs → decode cL_law pc = .ok (.ireturn, 1) → W p l e room_1 s m #[Value.ref b] below meth c H locs cl sl Q (F0 m pc ls [.int out]))
    (J2060 : ∀ {S : lSt} (H : Heap) (locs : List Loc) (ls : Array Slot), True → jn S = some out → g_LS D a (lE a cI cZ cJ S) s H locs → lv_has ls 7 [(0, .ref b), (1, .ref (a 0)), (2, .ref (a 66)), (3, .ref (a 65)), (4, .int i)] → W p l e room_1 s m #[Value.ref b] below meth c H locs (K + 8) (SL + 48) Q (F0 m 2060 ls []))
    (h : f_L_case21 N L xs i S jn = some out) {H : Heap} {locs : List Loc} {ls : Array Slot} (hI : g_LS D a (lE a cI cZ cJ S) s H locs) (hl : lv_has ls 7 [(0, .ref b), (1, .ref (a 0)), (2, .ref (a 66)), (3, .ref (a 65)), (4, .int i)]) : W p l e room_1 s m #[Value.ref b] below meth c H locs K SL Q (F0 m 1674 ls []) := by
  have hx := F.1.1
  have hb := F.1.2.1
  have hbA : ¬ (fun q => s.heap.size ≤ q) b := Nat.not_le.mpr hbl
  unfold f_L_case21 at h
  refine lv_aload_n hx hb dL_law_1674 rfl (lv_at hl 1 rfl) ?_
  obtain ⟨q_1675, e_1675, h⟩ := gBind_in h
  refine g_lcX (S := S) (σ' := q_1675.2) (As := []) (rest := []) F hI (c_X9_spread l D a cI (g_inj_sub (by decide) F.2.2.1) N S.1 q_1675 e_1675) kb_X9_spread ki_X9_spread ks_X9_spread km_L_187 ⟨(Nat.le_of_ble_eq_true rfl), (Nat.le_of_ble_eq_true rfl), rfl, rfl⟩ hl.1 rfl (Nat.le_of_ble_eq_true rfl) ⟨(by show _ ≤ 601024; omega), (by show _ ≤ 7293000; omega)⟩ dL_law_1675 (fun H locs hI => ?_)
  have hI : g_LS D a (lE a cI cZ cJ (q_1675.2, S.2.1, S.2.2)) s H locs := hI
  refine lv_aload_n hx hb dL_law_1678 rfl (lv_at hl 2 rfl) ?_
  obtain ⟨q_1679, e_1679, h⟩ := gBind_in h
  refine g_lcM (S := (q_1675.2, S.2.1, S.2.2)) (τ' := q_1679.2) (As := []) (rest := [.int q_1675.1]) F hI (c_X10_spread l D (fun j => a (66 + j)) cI cZ (g_inj_m F.2.2.1) N S.2.1 q_1679 e_1679) kb_X10_spread ki_X10_spread ks_X10_spread km_L_190 ⟨(Nat.le_of_ble_eq_true rfl), (Nat.le_of_ble_eq_true rfl), rfl, rfl⟩ hl.1 rfl (Nat.le_of_ble_eq_true rfl) ⟨(by show _ ≤ 601024; omega), (by show _ ≤ 7293000; omega)⟩ dL_law_1679 (fun H locs hI => ?_)
  have hI : g_LS D a (lE a cI cZ cJ (q_1675.2, q_1679.2, S.2.2)) s H locs := hI
  refine lv_icmp_eq (tgt := 2060) hx hb dL_law_1682 (by decide) (fun c_1682 => ?_) (fun c_1682 => ?_)
  · have h := (if_pos c_1682).symm.trans h
    refine W.widen (k := K + 8) (n := SL + 48) (by omega) (by omega) ?_
    exact J2060 _ _ _ trivial h hI (lv_sub hl [0, 1, 2, 3, 4] rfl)
  · have h := (if_neg c_1682).symm.trans h
    refine lv_iconst (v := 0) hx hb dL_law_1685 (by decide) ?_
    have h := Option.some.inj h
    subst h
    exact hq _ _ _ _ _ _ (by omega) (by omega) hI dL_law_1686
def f_L_case22 (N L : Nat) (xs : Nat → Int32) (i : Int32) (S : lSt) (jn : lSt → Option Int32) : Option Int32 :=
  if f_X9_runners S.1 = (f_X10_runners S.2.1).1 then
    jn (S.1, (f_X10_runners S.2.1).2, S.2.2)
  else
    some 0
set_option maxRecDepth 100000 in
set_option maxHeartbeats 8000000 in
theorem w_L_case22 {p : Program} {e : Env} {s : State} {m : MethodId} {below : List Frame} {meth : Method} {c : Code} {l : Launch} {b L : Nat} {xs : Nat → Int32} {D : va_G} {a : Nat → Nat} {cI cZ cJ : ClassId} {sa : Nat → Nat} {Q : State → Prop} {N : Nat} {i : Int32} {S : lSt} {jn : lSt → Option Int32} {out : Int32} {K SL : Nat} (F : g_LF p l m c s #[Value.ref b] D a cI cZ cJ sa) (hX : va_X b L xs s s.heap) (hbl : b < s.heap.size) (hK : K + 8 ≤ 601024) (hSL : SL + 48 ≤ 7293000)
    (hq : ∀ {S : lSt} (H : Heap) (locs : List Loc) (pc : Nat) (ls : Array Slot) (cl sl : Nat), cl ≤ 601024 → sl ≤ 7293000 → g_LS D a (lE a cI cZ cJ S) s H locs → decode cL_law pc = .ok (.ireturn, 1) → W p l e room_1 s m #[Value.ref b] below meth c H locs cl sl Q (F0 m pc ls [.int out]))
    (J2060 : ∀ {S : lSt} (H : Heap) (locs : List Loc) (ls : Array Slot), True → jn S = some out → g_LS D a (lE a cI cZ cJ S) s H locs → lv_has ls 7 [(0, .ref b), (1, .ref (a 0)), (2, .ref (a 66)), (3, .ref (a 65)), (4, .int i)] → W p l e room_1 s m #[Value.ref b] below meth c H locs (K + 8) (SL + 48) Q (F0 m 2060 ls []))
    (h : f_L_case22 N L xs i S jn = some out) {H : Heap} {locs : List Loc} {ls : Array Slot} (hI : g_LS D a (lE a cI cZ cJ S) s H locs) (hl : lv_has ls 7 [(0, .ref b), (1, .ref (a 0)), (2, .ref (a 66)), (3, .ref (a 65)), (4, .int i)]) : W p l e room_1 s m #[Value.ref b] below meth c H locs K SL Q (F0 m 1687 ls []) := by
  have hx := F.1.1
  have hb := F.1.2.1
  have hbA : ¬ (fun q => s.heap.size ≤ q) b := Nat.not_le.mpr hbl
  unfold f_L_case22 at h
  refine lv_aload_n hx hb dL_law_1687 rfl (lv_at hl 1 rfl) ?_
  refine g_lcX (S := S) (σ' := S.1) (As := []) (rest := []) F hI (c_X9_runners l D a cI (g_inj_sub (by decide) F.2.2.1) S.1) kb_X9_runners ki_X9_runners ks_X9_runners km_L_191 ⟨(Nat.le_of_ble_eq_true rfl), (Nat.le_of_ble_eq_true rfl), rfl, rfl⟩ hl.1 rfl (Nat.le_of_ble_eq_true rfl) ⟨(by show _ ≤ 601024; omega), (by show _ ≤ 7293000; omega)⟩ dL_law_1688 (fun H locs hI => ?_)
  have hI : g_LS D a (lE a cI cZ cJ (S.1, S.2.1, S.2.2)) s H locs := hI
  refine lv_aload_n hx hb dL_law_1691 rfl (lv_at hl 2 rfl) ?_
  refine g_lcM (S := (S.1, S.2.1, S.2.2)) (τ' := (f_X10_runners S.2.1).2) (As := []) (rest := [.int (f_X9_runners S.1)]) F hI (c_X10_runners l D (fun j => a (66 + j)) cI cZ (g_inj_m F.2.2.1) S.2.1) kb_X10_runners ki_X10_runners ks_X10_runners km_L_194 ⟨(Nat.le_of_ble_eq_true rfl), (Nat.le_of_ble_eq_true rfl), rfl, rfl⟩ hl.1 rfl (Nat.le_of_ble_eq_true rfl) ⟨(by show _ ≤ 601024; omega), (by show _ ≤ 7293000; omega)⟩ dL_law_1692 (fun H locs hI => ?_)
  have hI : g_LS D a (lE a cI cZ cJ (S.1, (f_X10_runners S.2.1).2, S.2.2)) s H locs := hI
  refine lv_icmp_eq (tgt := 2060) hx hb dL_law_1695 (by decide) (fun c_1695 => ?_) (fun c_1695 => ?_)
  · have h := (if_pos c_1695).symm.trans h
    refine W.widen (k := K + 8) (n := SL + 48) (by omega) (by omega) ?_
    exact J2060 _ _ _ trivial h hI (lv_sub hl [0, 1, 2, 3, 4] rfl)
  · have h := (if_neg c_1695).symm.trans h
    refine lv_iconst (v := 0) hx hb dL_law_1698 (by decide) ?_
    have h := Option.some.inj h
    subst h
    exact hq _ _ _ _ _ _ (by omega) (by omega) hI dL_law_1699
theorem kd_L_startOf : yL_startOf.cls ≠ "java/lang/invoke/MethodHandle" ∧ yL_startOf.cls ≠ "java/lang/invoke/VarHandle" ∧ (parseMethodDescriptor yL_startOf.desc).map (fun d => d.parameters.length) = some 3 := by decide +kernel
def f_L_case23 (N L : Nat) (xs : Nat → Int32) (i : Int32) (S : lSt) (jn : lSt → Option Int32) : Option Int32 :=
  if i + 1 < 0 ∨ L ≤ (i + 1).toNatClampNeg then none else
  (some (f_X9_startOf S.1 (xs (i + 1).toNatClampNeg))).bind (fun (q_1708 : Nat × Int32 × gSt) =>
  if ¬ (q_1708.1 = 0 ∨ q_1708.1 = 1) then none else
  if i + 1 < 0 ∨ L ≤ (i + 1).toNatClampNeg then none else
  (f_X10_startOf N S.2.1 (xs (i + 1).toNatClampNeg)).bind (fun (q_1720 : Int32 × gSt) =>
  if f_X10_thrown q_1720.2 = f_L_startOf q_1708.1 then
    gJoin0 (
        jn (q_1708.2.2, q_1720.2, o_L_startOf q_1708.1 q_1708.2.1 S.2.2)) (fun j1753 =>
      if f_L_startOf q_1708.1 = 0 then
        if lg_cmp (o_L_startOf q_1708.1 q_1708.2.1 S.2.2 0) q_1720.1.toInt64 = 0 then
          j1753
        else
          some 0
      else
        j1753)
  else
    some 0))
set_option maxRecDepth 100000 in
set_option maxHeartbeats 8000000 in
theorem w_L_case23 {p : Program} {e : Env} {s : State} {m : MethodId} {below : List Frame} {meth : Method} {c : Code} {l : Launch} {b L : Nat} {xs : Nat → Int32} {D : va_G} {a : Nat → Nat} {cI cZ cJ : ClassId} {sa : Nat → Nat} {Q : State → Prop} {N : Nat} {i : Int32} {S : lSt} {jn : lSt → Option Int32} {out : Int32} {K SL : Nat} (F : g_LF p l m c s #[Value.ref b] D a cI cZ cJ sa) (hX : va_X b L xs s s.heap) (hbl : b < s.heap.size) (hK : K + 8 ≤ 601024) (hSL : SL + 48 ≤ 7293000)
    (hq : ∀ {S : lSt} (H : Heap) (locs : List Loc) (pc : Nat) (ls : Array Slot) (cl sl : Nat), cl ≤ 601024 → sl ≤ 7293000 → g_LS D a (lE a cI cZ cJ S) s H locs → decode cL_law pc = .ok (.ireturn, 1) → W p l e room_1 s m #[Value.ref b] below meth c H locs cl sl Q (F0 m pc ls [.int out]))
    (J2060 : ∀ {S : lSt} (H : Heap) (locs : List Loc) (ls : Array Slot), True → jn S = some out → g_LS D a (lE a cI cZ cJ S) s H locs → lv_has ls 7 [(0, .ref b), (1, .ref (a 0)), (2, .ref (a 66)), (3, .ref (a 65)), (4, .int i)] → W p l e room_1 s m #[Value.ref b] below meth c H locs (K + 8) (SL + 48) Q (F0 m 2060 ls []))
    (h : f_L_case23 N L xs i S jn = some out) {H : Heap} {locs : List Loc} {ls : Array Slot} (hI : g_LS D a (lE a cI cZ cJ S) s H locs) (hl : lv_has ls 7 [(0, .ref b), (1, .ref (a 0)), (2, .ref (a 66)), (3, .ref (a 65)), (4, .int i)]) : W p l e room_1 s m #[Value.ref b] below meth c H locs K SL Q (F0 m 1700 ls []) := by
  have hx := F.1.1
  have hb := F.1.2.1
  have hbA : ¬ (fun q => s.heap.size ≤ q) b := Nat.not_le.mpr hbl
  unfold f_L_case23 at h
  refine lv_aload_n hx hb dL_law_1700 rfl (lv_at hl 1 rfl) ?_
  refine lv_aload_n hx hb dL_law_1701 rfl (lv_at hl 0 rfl) ?_
  refine lv_iload hx hb dL_law_1702 (lv_at hl 4 rfl) ?_
  refine lv_iconst (v := 1) hx hb dL_law_1704 (by decide) ?_
  refine lv_iadd hx hb dL_law_1705 ?_
  obtain ⟨g_1706, h⟩ := g_guard h
  refine va_sld hx hb hX hbl hbA hI.2 g_1706 dL_law_1706 ?_
  refine lv_aload_n hx hb dL_law_1707 rfl (lv_at hl 3 rfl) ?_
  obtain ⟨q_1708, e_1708, h⟩ := gBind_in h
  obtain ⟨g_1708, h⟩ := g_guard h
  refine g_lcW (S := S) (σ' := q_1708.2.2) (f' := o_L_startOf q_1708.1 q_1708.2.1 S.2.2) (As := [.ref (a 0), .int (xs (i + 1).toNatClampNeg), .ref (a 65)]) (rest := []) F hI (c_L_startOf l D a cI cJ (g_inj_sub (by decide) F.2.2.1) F.2.2.2.2.2.2.2 sa (xs (i + 1).toNatClampNeg) S.1 S.2.2 q_1708 (Option.some.inj e_1708) (Decidable.not_not.mp g_1708)) kh_L_startOf kn_L kd_L_startOf kt_L_startOf km_L_195 ⟨(Nat.le_of_ble_eq_true rfl), (Nat.le_of_ble_eq_true rfl), rfl, rfl⟩ hl.1 rfl (Nat.le_of_ble_eq_true rfl) ⟨(by show _ ≤ 601024; omega), (by show _ ≤ 7293000; omega)⟩ dL_law_1708 (fun H locs hI => ?_)
  have hI : g_LS D a (lE a cI cZ cJ (q_1708.2.2, S.2.1, o_L_startOf q_1708.1 q_1708.2.1 S.2.2)) s H locs := hI
  refine lv_istore (lv' := [(5, .int (f_L_startOf q_1708.1)), (0, .ref b), (1, .ref (a 0)), (2, .ref (a 66)), (3, .ref (a 65)), (4, .int i)]) hx hb dL_law_1711 hl (by decide) rfl (fun ls hl => ?_)
  refine lv_aload_n hx hb dL_law_1713 rfl (lv_at hl 3 rfl) ?_
  refine lv_aload_n hx hb dL_law_1714 rfl (lv_at hl 1 rfl) ?_
  refine lv_iload hx hb dL_law_1715 (lv_at hl 5 rfl) ?_
  refine lv_iconst (v := 1) hx hb dL_law_1717 (by decide) ?_
  refine lv_iadd hx hb dL_law_1718 ?_
  obtain ⟨g_1719, h⟩ := g_guard h
  refine va_sld hx hb hX hbl hbA hI.2 g_1719 dL_law_1719 ?_
  obtain ⟨q_1720, e_1720, h⟩ := gBind_in h
  refine g_lcM (S := (q_1708.2.2, S.2.1, o_L_startOf q_1708.1 q_1708.2.1 S.2.2)) (τ' := q_1720.2) (As := [.int (xs (i + 1).toNatClampNeg)]) (rest := []) F hI (c_X10_startOf l D (fun j => a (66 + j)) cI cZ (g_inj_m F.2.2.1) N S.2.1 (xs (i + 1).toNatClampNeg) q_1720 e_1720) kb_X10_startOf ki_X10_startOf ks_X10_startOf km_L_197 ⟨(Nat.le_of_ble_eq_true rfl), (Nat.le_of_ble_eq_true rfl), rfl, rfl⟩ hl.1 rfl (Nat.le_of_ble_eq_true rfl) ⟨(by show _ ≤ 601024; omega), (by show _ ≤ 7293000; omega)⟩ dL_law_1720 (fun H locs hI => ?_)
  have hI : g_LS D a (lE a cI cZ cJ (q_1708.2.2, q_1720.2, o_L_startOf q_1708.1 q_1708.2.1 S.2.2)) s H locs := hI
  refine lv_istore (lv' := [(6, .int q_1720.1), (5, .int (f_L_startOf q_1708.1)), (0, .ref b), (1, .ref (a 0)), (2, .ref (a 66)), (3, .ref (a 65)), (4, .int i)]) hx hb dL_law_1723 hl (by decide) rfl (fun ls hl => ?_)
  refine lv_aload_n hx hb dL_law_1725 rfl (lv_at hl 4 rfl) ?_
  refine g_lcM (S := (q_1708.2.2, q_1720.2, o_L_startOf q_1708.1 q_1708.2.1 S.2.2)) (τ' := q_1720.2) (As := []) (rest := []) F hI (c_X10_thrown l D (fun j => a (66 + j)) cI cZ (g_inj_m F.2.2.1) q_1720.2) kb_X10_thrown ki_X10_thrown ks_X10_thrown km_L_118 ⟨(Nat.le_of_ble_eq_true rfl), (Nat.le_of_ble_eq_true rfl), rfl, rfl⟩ hl.1 rfl (Nat.le_of_ble_eq_true rfl) ⟨(by show _ ≤ 601024; omega), (by show _ ≤ 7293000; omega)⟩ dL_law_1726 (fun H locs hI => ?_)
  have hI : g_LS D a (lE a cI cZ cJ (q_1708.2.2, q_1720.2, o_L_startOf q_1708.1 q_1708.2.1 S.2.2)) s H locs := hI
  refine lv_iload hx hb dL_law_1729 (lv_at hl 1 rfl) ?_
  refine lv_icmp_eq (tgt := 1736) hx hb dL_law_1731 (by decide) (fun c_1731 => ?_) (fun c_1731 => ?_)
  · have h := (if_pos c_1731).symm.trans h
    refine lv_iload hx hb dL_law_1736 (lv_at hl 1 rfl) ?_
    obtain ⟨j1753, hj1753, h⟩ := gJoin0_in h
    have J1753 : ∀ (H : Heap) (locs : List Loc) (ls : Array Slot), j1753  = some out → g_LS D a (lE a cI cZ cJ (q_1708.2.2, q_1720.2, o_L_startOf q_1708.1 q_1708.2.1 S.2.2)) s H locs → lv_has ls 7 [(0, .ref b), (1, .ref (a 0)), (2, .ref (a 66)), (3, .ref (a 65)), (4, .int i)] → W p l e room_1 s m #[Value.ref b] below meth c H locs (K + 1) (SL + 6) Q (F0 m 1753 ls []) := by
      intro  H locs ls h hI hl
      rw [hj1753] at h
      refine lv_goto (tgt := 2060) hx hb dL_law_1753 (by decide) ?_
      refine W.widen (k := K + 8) (n := SL + 48) (by omega) (by omega) ?_
      exact J2060 _ _ _ trivial h hI (lv_sub hl [0, 1, 2, 3, 4] rfl)
    refine lv_if_ne (tgt := 1753) hx hb dL_law_1738 (by decide) (fun c_1738 => ?_) (fun c_1738 => ?_)
    · have h := (if_neg c_1738).symm.trans h
      exact J1753 _ _ _ h hI (lv_sub hl [2, 3, 4, 5, 6] rfl)
    · have h := (if_pos c_1738).symm.trans h
      refine lv_aload_n hx hb dL_law_1741 rfl (lv_at hl 5 rfl) ?_
      refine lv_iconst (v := 0) hx hb dL_law_1742 (by decide) ?_
      refine g_llald F hI dL_law_1743 ?_
      refine lv_iload hx hb dL_law_1744 (lv_at hl 0 rfl) ?_
      refine lv_i2l hx hb dL_law_1746 rfl ?_
      refine W.lcmp hx hb dL_law_1747 ?_
      refine lv_if_eq (tgt := 1753) hx hb dL_law_1748 (by decide) (fun c_1748 => ?_) (fun c_1748 => ?_)
      · have h := (if_pos c_1748).symm.trans h
        exact J1753 _ _ _ h hI (lv_sub hl [2, 3, 4, 5, 6] rfl)
      · have h := (if_neg c_1748).symm.trans h
        refine lv_iconst (v := 0) hx hb dL_law_1751 (by decide) ?_
        have h := Option.some.inj h
        subst h
        exact hq _ _ _ _ _ _ (by omega) (by omega) hI dL_law_1752
  · have h := (if_neg c_1731).symm.trans h
    refine lv_iconst (v := 0) hx hb dL_law_1734 (by decide) ?_
    have h := Option.some.inj h
    subst h
    exact hq _ _ _ _ _ _ (by omega) (by omega) hI dL_law_1735
theorem kd_L_stateOf : yL_stateOf.cls ≠ "java/lang/invoke/MethodHandle" ∧ yL_stateOf.cls ≠ "java/lang/invoke/VarHandle" ∧ (parseMethodDescriptor yL_stateOf.desc).map (fun d => d.parameters.length) = some 3 := by decide +kernel
def f_L_case24 (N L : Nat) (xs : Nat → Int32) (i : Int32) (S : lSt) (jn : lSt → Option Int32) : Option Int32 :=
  if i + 1 < 0 ∨ L ≤ (i + 1).toNatClampNeg then none else
  (f_X9_stateOf N S.1 (xs (i + 1).toNatClampNeg)).bind (fun (q_1764 : Nat × Int32 × gSt) =>
  if ¬ (q_1764.1 = 0 ∨ q_1764.1 = 1) then none else
  if i + 1 < 0 ∨ L ≤ (i + 1).toNatClampNeg then none else
  (f_X10_stateOf N S.2.1 (xs (i + 1).toNatClampNeg)).bind (fun (q_1776 : Int32 × gSt) =>
  if f_X10_thrown q_1776.2 = f_L_stateOf q_1764.1 then
    gJoin0 (
        jn (q_1764.2.2, q_1776.2, o_L_stateOf q_1764.1 q_1764.2.1 S.2.2)) (fun j1809 =>
      if f_L_stateOf q_1764.1 = 0 then
        if lg_cmp (o_L_stateOf q_1764.1 q_1764.2.1 S.2.2 0) q_1776.1.toInt64 = 0 then
          j1809
        else
          some 0
      else
        j1809)
  else
    some 0))
set_option maxRecDepth 100000 in
set_option maxHeartbeats 8000000 in
theorem w_L_case24 {p : Program} {e : Env} {s : State} {m : MethodId} {below : List Frame} {meth : Method} {c : Code} {l : Launch} {b L : Nat} {xs : Nat → Int32} {D : va_G} {a : Nat → Nat} {cI cZ cJ : ClassId} {sa : Nat → Nat} {Q : State → Prop} {N : Nat} {i : Int32} {S : lSt} {jn : lSt → Option Int32} {out : Int32} {K SL : Nat} (F : g_LF p l m c s #[Value.ref b] D a cI cZ cJ sa) (hX : va_X b L xs s s.heap) (hbl : b < s.heap.size) (hK : K + 8 ≤ 601024) (hSL : SL + 48 ≤ 7293000)
    (hq : ∀ {S : lSt} (H : Heap) (locs : List Loc) (pc : Nat) (ls : Array Slot) (cl sl : Nat), cl ≤ 601024 → sl ≤ 7293000 → g_LS D a (lE a cI cZ cJ S) s H locs → decode cL_law pc = .ok (.ireturn, 1) → W p l e room_1 s m #[Value.ref b] below meth c H locs cl sl Q (F0 m pc ls [.int out]))
    (J2060 : ∀ {S : lSt} (H : Heap) (locs : List Loc) (ls : Array Slot), True → jn S = some out → g_LS D a (lE a cI cZ cJ S) s H locs → lv_has ls 7 [(0, .ref b), (1, .ref (a 0)), (2, .ref (a 66)), (3, .ref (a 65)), (4, .int i)] → W p l e room_1 s m #[Value.ref b] below meth c H locs (K + 8) (SL + 48) Q (F0 m 2060 ls []))
    (h : f_L_case24 N L xs i S jn = some out) {H : Heap} {locs : List Loc} {ls : Array Slot} (hI : g_LS D a (lE a cI cZ cJ S) s H locs) (hl : lv_has ls 7 [(0, .ref b), (1, .ref (a 0)), (2, .ref (a 66)), (3, .ref (a 65)), (4, .int i)]) : W p l e room_1 s m #[Value.ref b] below meth c H locs K SL Q (F0 m 1756 ls []) := by
  have hx := F.1.1
  have hb := F.1.2.1
  have hbA : ¬ (fun q => s.heap.size ≤ q) b := Nat.not_le.mpr hbl
  unfold f_L_case24 at h
  refine lv_aload_n hx hb dL_law_1756 rfl (lv_at hl 1 rfl) ?_
  refine lv_aload_n hx hb dL_law_1757 rfl (lv_at hl 0 rfl) ?_
  refine lv_iload hx hb dL_law_1758 (lv_at hl 4 rfl) ?_
  refine lv_iconst (v := 1) hx hb dL_law_1760 (by decide) ?_
  refine lv_iadd hx hb dL_law_1761 ?_
  obtain ⟨g_1762, h⟩ := g_guard h
  refine va_sld hx hb hX hbl hbA hI.2 g_1762 dL_law_1762 ?_
  refine lv_aload_n hx hb dL_law_1763 rfl (lv_at hl 3 rfl) ?_
  obtain ⟨q_1764, e_1764, h⟩ := gBind_in h
  obtain ⟨g_1764, h⟩ := g_guard h
  refine g_lcW (S := S) (σ' := q_1764.2.2) (f' := o_L_stateOf q_1764.1 q_1764.2.1 S.2.2) (As := [.ref (a 0), .int (xs (i + 1).toNatClampNeg), .ref (a 65)]) (rest := []) F hI (c_L_stateOf l D a cI cJ (g_inj_sub (by decide) F.2.2.1) F.2.2.2.2.2.2.2 sa N (xs (i + 1).toNatClampNeg) S.1 S.2.2 q_1764 e_1764 (Decidable.not_not.mp g_1764)) kh_L_stateOf kn_L kd_L_stateOf kt_L_stateOf km_L_198 ⟨(Nat.le_of_ble_eq_true rfl), (Nat.le_of_ble_eq_true rfl), rfl, rfl⟩ hl.1 rfl (Nat.le_of_ble_eq_true rfl) ⟨(by show _ ≤ 601024; omega), (by show _ ≤ 7293000; omega)⟩ dL_law_1764 (fun H locs hI => ?_)
  have hI : g_LS D a (lE a cI cZ cJ (q_1764.2.2, S.2.1, o_L_stateOf q_1764.1 q_1764.2.1 S.2.2)) s H locs := hI
  refine lv_istore (lv' := [(5, .int (f_L_stateOf q_1764.1)), (0, .ref b), (1, .ref (a 0)), (2, .ref (a 66)), (3, .ref (a 65)), (4, .int i)]) hx hb dL_law_1767 hl (by decide) rfl (fun ls hl => ?_)
  refine lv_aload_n hx hb dL_law_1769 rfl (lv_at hl 3 rfl) ?_
  refine lv_aload_n hx hb dL_law_1770 rfl (lv_at hl 1 rfl) ?_
  refine lv_iload hx hb dL_law_1771 (lv_at hl 5 rfl) ?_
  refine lv_iconst (v := 1) hx hb dL_law_1773 (by decide) ?_
  refine lv_iadd hx hb dL_law_1774 ?_
  obtain ⟨g_1775, h⟩ := g_guard h
  refine va_sld hx hb hX hbl hbA hI.2 g_1775 dL_law_1775 ?_
  obtain ⟨q_1776, e_1776, h⟩ := gBind_in h
  refine g_lcM (S := (q_1764.2.2, S.2.1, o_L_stateOf q_1764.1 q_1764.2.1 S.2.2)) (τ' := q_1776.2) (As := [.int (xs (i + 1).toNatClampNeg)]) (rest := []) F hI (c_X10_stateOf l D (fun j => a (66 + j)) cI cZ (g_inj_m F.2.2.1) N S.2.1 (xs (i + 1).toNatClampNeg) q_1776 e_1776) kb_X10_stateOf ki_X10_stateOf ks_X10_stateOf km_L_200 ⟨(Nat.le_of_ble_eq_true rfl), (Nat.le_of_ble_eq_true rfl), rfl, rfl⟩ hl.1 rfl (Nat.le_of_ble_eq_true rfl) ⟨(by show _ ≤ 601024; omega), (by show _ ≤ 7293000; omega)⟩ dL_law_1776 (fun H locs hI => ?_)
  have hI : g_LS D a (lE a cI cZ cJ (q_1764.2.2, q_1776.2, o_L_stateOf q_1764.1 q_1764.2.1 S.2.2)) s H locs := hI
  refine lv_istore (lv' := [(6, .int q_1776.1), (5, .int (f_L_stateOf q_1764.1)), (0, .ref b), (1, .ref (a 0)), (2, .ref (a 66)), (3, .ref (a 65)), (4, .int i)]) hx hb dL_law_1779 hl (by decide) rfl (fun ls hl => ?_)
  refine lv_aload_n hx hb dL_law_1781 rfl (lv_at hl 4 rfl) ?_
  refine g_lcM (S := (q_1764.2.2, q_1776.2, o_L_stateOf q_1764.1 q_1764.2.1 S.2.2)) (τ' := q_1776.2) (As := []) (rest := []) F hI (c_X10_thrown l D (fun j => a (66 + j)) cI cZ (g_inj_m F.2.2.1) q_1776.2) kb_X10_thrown ki_X10_thrown ks_X10_thrown km_L_118 ⟨(Nat.le_of_ble_eq_true rfl), (Nat.le_of_ble_eq_true rfl), rfl, rfl⟩ hl.1 rfl (Nat.le_of_ble_eq_true rfl) ⟨(by show _ ≤ 601024; omega), (by show _ ≤ 7293000; omega)⟩ dL_law_1782 (fun H locs hI => ?_)
  have hI : g_LS D a (lE a cI cZ cJ (q_1764.2.2, q_1776.2, o_L_stateOf q_1764.1 q_1764.2.1 S.2.2)) s H locs := hI
  refine lv_iload hx hb dL_law_1785 (lv_at hl 1 rfl) ?_
  refine lv_icmp_eq (tgt := 1792) hx hb dL_law_1787 (by decide) (fun c_1787 => ?_) (fun c_1787 => ?_)
  · have h := (if_pos c_1787).symm.trans h
    refine lv_iload hx hb dL_law_1792 (lv_at hl 1 rfl) ?_
    obtain ⟨j1809, hj1809, h⟩ := gJoin0_in h
    have J1809 : ∀ (H : Heap) (locs : List Loc) (ls : Array Slot), j1809  = some out → g_LS D a (lE a cI cZ cJ (q_1764.2.2, q_1776.2, o_L_stateOf q_1764.1 q_1764.2.1 S.2.2)) s H locs → lv_has ls 7 [(0, .ref b), (1, .ref (a 0)), (2, .ref (a 66)), (3, .ref (a 65)), (4, .int i)] → W p l e room_1 s m #[Value.ref b] below meth c H locs (K + 1) (SL + 6) Q (F0 m 1809 ls []) := by
      intro  H locs ls h hI hl
      rw [hj1809] at h
      refine lv_goto (tgt := 2060) hx hb dL_law_1809 (by decide) ?_
      refine W.widen (k := K + 8) (n := SL + 48) (by omega) (by omega) ?_
      exact J2060 _ _ _ trivial h hI (lv_sub hl [0, 1, 2, 3, 4] rfl)
    refine lv_if_ne (tgt := 1809) hx hb dL_law_1794 (by decide) (fun c_1794 => ?_) (fun c_1794 => ?_)
    · have h := (if_neg c_1794).symm.trans h
      exact J1809 _ _ _ h hI (lv_sub hl [2, 3, 4, 5, 6] rfl)
    · have h := (if_pos c_1794).symm.trans h
      refine lv_aload_n hx hb dL_law_1797 rfl (lv_at hl 5 rfl) ?_
      refine lv_iconst (v := 0) hx hb dL_law_1798 (by decide) ?_
      refine g_llald F hI dL_law_1799 ?_
      refine lv_iload hx hb dL_law_1800 (lv_at hl 0 rfl) ?_
      refine lv_i2l hx hb dL_law_1802 rfl ?_
      refine W.lcmp hx hb dL_law_1803 ?_
      refine lv_if_eq (tgt := 1809) hx hb dL_law_1804 (by decide) (fun c_1804 => ?_) (fun c_1804 => ?_)
      · have h := (if_pos c_1804).symm.trans h
        exact J1809 _ _ _ h hI (lv_sub hl [2, 3, 4, 5, 6] rfl)
      · have h := (if_neg c_1804).symm.trans h
        refine lv_iconst (v := 0) hx hb dL_law_1807 (by decide) ?_
        have h := Option.some.inj h
        subst h
        exact hq _ _ _ _ _ _ (by omega) (by omega) hI dL_law_1808
  · have h := (if_neg c_1787).symm.trans h
    refine lv_iconst (v := 0) hx hb dL_law_1790 (by decide) ?_
    have h := Option.some.inj h
    subst h
    exact hq _ _ _ _ _ _ (by omega) (by omega) hI dL_law_1791
theorem kd_L_split : yL_split.cls ≠ "java/lang/invoke/MethodHandle" ∧ yL_split.cls ≠ "java/lang/invoke/VarHandle" ∧ (parseMethodDescriptor yL_split.desc).map (fun d => d.parameters.length) = some 4 := by decide +kernel
def f_L_case25 (N L : Nat) (xs : Nat → Int32) (i : Int32) (S : lSt) (jn : lSt → Option Int32) : Option Int32 :=
  if i + 1 < 0 ∨ L ≤ (i + 1).toNatClampNeg then none else
  if i + 2 < 0 ∨ L ≤ (i + 2).toNatClampNeg then none else
  (f_X9_split N S.1 (xs (i + 1).toNatClampNeg) (xs (i + 2).toNatClampNeg)).bind (fun (q_1826 : Nat × Int32 × gSt) =>
  if ¬ (q_1826.1 = 0 ∨ q_1826.1 = 1) then none else
  if i + 1 < 0 ∨ L ≤ (i + 1).toNatClampNeg then none else
  if i + 2 < 0 ∨ L ≤ (i + 2).toNatClampNeg then none else
  (f_X10_split N S.2.1 (xs (i + 1).toNatClampNeg) (xs (i + 2).toNatClampNeg)).bind (fun (q_1844 : Int32 × gSt) =>
  if f_X10_thrown q_1844.2 = f_L_split q_1826.1 then
    gJoin0 (
        jn (q_1826.2.2, q_1844.2, o_L_split q_1826.1 q_1826.2.1 S.2.2)) (fun j1877 =>
      if f_L_split q_1826.1 = 0 then
        if lg_cmp (o_L_split q_1826.1 q_1826.2.1 S.2.2 0) q_1844.1.toInt64 = 0 then
          j1877
        else
          some 0
      else
        j1877)
  else
    some 0))
set_option maxRecDepth 100000 in
set_option maxHeartbeats 8000000 in
theorem w_L_case25 {p : Program} {e : Env} {s : State} {m : MethodId} {below : List Frame} {meth : Method} {c : Code} {l : Launch} {b L : Nat} {xs : Nat → Int32} {D : va_G} {a : Nat → Nat} {cI cZ cJ : ClassId} {sa : Nat → Nat} {Q : State → Prop} {N : Nat} {i : Int32} {S : lSt} {jn : lSt → Option Int32} {out : Int32} {K SL : Nat} (F : g_LF p l m c s #[Value.ref b] D a cI cZ cJ sa) (hX : va_X b L xs s s.heap) (hbl : b < s.heap.size) (hK : K + 8 ≤ 601024) (hSL : SL + 48 ≤ 7293000)
    (hq : ∀ {S : lSt} (H : Heap) (locs : List Loc) (pc : Nat) (ls : Array Slot) (cl sl : Nat), cl ≤ 601024 → sl ≤ 7293000 → g_LS D a (lE a cI cZ cJ S) s H locs → decode cL_law pc = .ok (.ireturn, 1) → W p l e room_1 s m #[Value.ref b] below meth c H locs cl sl Q (F0 m pc ls [.int out]))
    (J2060 : ∀ {S : lSt} (H : Heap) (locs : List Loc) (ls : Array Slot), True → jn S = some out → g_LS D a (lE a cI cZ cJ S) s H locs → lv_has ls 7 [(0, .ref b), (1, .ref (a 0)), (2, .ref (a 66)), (3, .ref (a 65)), (4, .int i)] → W p l e room_1 s m #[Value.ref b] below meth c H locs (K + 8) (SL + 48) Q (F0 m 2060 ls []))
    (h : f_L_case25 N L xs i S jn = some out) {H : Heap} {locs : List Loc} {ls : Array Slot} (hI : g_LS D a (lE a cI cZ cJ S) s H locs) (hl : lv_has ls 7 [(0, .ref b), (1, .ref (a 0)), (2, .ref (a 66)), (3, .ref (a 65)), (4, .int i)]) : W p l e room_1 s m #[Value.ref b] below meth c H locs K SL Q (F0 m 1812 ls []) := by
  have hx := F.1.1
  have hb := F.1.2.1
  have hbA : ¬ (fun q => s.heap.size ≤ q) b := Nat.not_le.mpr hbl
  unfold f_L_case25 at h
  refine lv_aload_n hx hb dL_law_1812 rfl (lv_at hl 1 rfl) ?_
  refine lv_aload_n hx hb dL_law_1813 rfl (lv_at hl 0 rfl) ?_
  refine lv_iload hx hb dL_law_1814 (lv_at hl 4 rfl) ?_
  refine lv_iconst (v := 1) hx hb dL_law_1816 (by decide) ?_
  refine lv_iadd hx hb dL_law_1817 ?_
  obtain ⟨g_1818, h⟩ := g_guard h
  refine va_sld hx hb hX hbl hbA hI.2 g_1818 dL_law_1818 ?_
  refine lv_aload_n hx hb dL_law_1819 rfl (lv_at hl 0 rfl) ?_
  refine lv_iload hx hb dL_law_1820 (lv_at hl 4 rfl) ?_
  refine lv_iconst (v := 2) hx hb dL_law_1822 (by decide) ?_
  refine lv_iadd hx hb dL_law_1823 ?_
  obtain ⟨g_1824, h⟩ := g_guard h
  refine va_sld hx hb hX hbl hbA hI.2 g_1824 dL_law_1824 ?_
  refine lv_aload_n hx hb dL_law_1825 rfl (lv_at hl 3 rfl) ?_
  obtain ⟨q_1826, e_1826, h⟩ := gBind_in h
  obtain ⟨g_1826, h⟩ := g_guard h
  refine g_lcW (S := S) (σ' := q_1826.2.2) (f' := o_L_split q_1826.1 q_1826.2.1 S.2.2) (As := [.ref (a 0), .int (xs (i + 1).toNatClampNeg), .int (xs (i + 2).toNatClampNeg), .ref (a 65)]) (rest := []) F hI (c_L_split l D a cI cJ (g_inj_sub (by decide) F.2.2.1) F.2.2.2.2.2.2.2 sa N (xs (i + 1).toNatClampNeg) (xs (i + 2).toNatClampNeg) S.1 S.2.2 q_1826 e_1826 (Decidable.not_not.mp g_1826)) kh_L_split kn_L kd_L_split kt_L_split km_L_201 ⟨(Nat.le_of_ble_eq_true rfl), (Nat.le_of_ble_eq_true rfl), rfl, rfl⟩ hl.1 rfl (Nat.le_of_ble_eq_true rfl) ⟨(by show _ ≤ 601024; omega), (by show _ ≤ 7293000; omega)⟩ dL_law_1826 (fun H locs hI => ?_)
  have hI : g_LS D a (lE a cI cZ cJ (q_1826.2.2, S.2.1, o_L_split q_1826.1 q_1826.2.1 S.2.2)) s H locs := hI
  refine lv_istore (lv' := [(5, .int (f_L_split q_1826.1)), (0, .ref b), (1, .ref (a 0)), (2, .ref (a 66)), (3, .ref (a 65)), (4, .int i)]) hx hb dL_law_1829 hl (by decide) rfl (fun ls hl => ?_)
  refine lv_aload_n hx hb dL_law_1831 rfl (lv_at hl 3 rfl) ?_
  refine lv_aload_n hx hb dL_law_1832 rfl (lv_at hl 1 rfl) ?_
  refine lv_iload hx hb dL_law_1833 (lv_at hl 5 rfl) ?_
  refine lv_iconst (v := 1) hx hb dL_law_1835 (by decide) ?_
  refine lv_iadd hx hb dL_law_1836 ?_
  obtain ⟨g_1837, h⟩ := g_guard h
  refine va_sld hx hb hX hbl hbA hI.2 g_1837 dL_law_1837 ?_
  refine lv_aload_n hx hb dL_law_1838 rfl (lv_at hl 1 rfl) ?_
  refine lv_iload hx hb dL_law_1839 (lv_at hl 5 rfl) ?_
  refine lv_iconst (v := 2) hx hb dL_law_1841 (by decide) ?_
  refine lv_iadd hx hb dL_law_1842 ?_
  obtain ⟨g_1843, h⟩ := g_guard h
  refine va_sld hx hb hX hbl hbA hI.2 g_1843 dL_law_1843 ?_
  obtain ⟨q_1844, e_1844, h⟩ := gBind_in h
  refine g_lcM (S := (q_1826.2.2, S.2.1, o_L_split q_1826.1 q_1826.2.1 S.2.2)) (τ' := q_1844.2) (As := [.int (xs (i + 1).toNatClampNeg), .int (xs (i + 2).toNatClampNeg)]) (rest := []) F hI (c_X10_split l D (fun j => a (66 + j)) cI cZ (g_inj_m F.2.2.1) N S.2.1 (xs (i + 1).toNatClampNeg) (xs (i + 2).toNatClampNeg) q_1844 e_1844) kb_X10_split ki_X10_split ks_X10_split km_L_203 ⟨(Nat.le_of_ble_eq_true rfl), (Nat.le_of_ble_eq_true rfl), rfl, rfl⟩ hl.1 rfl (Nat.le_of_ble_eq_true rfl) ⟨(by show _ ≤ 601024; omega), (by show _ ≤ 7293000; omega)⟩ dL_law_1844 (fun H locs hI => ?_)
  have hI : g_LS D a (lE a cI cZ cJ (q_1826.2.2, q_1844.2, o_L_split q_1826.1 q_1826.2.1 S.2.2)) s H locs := hI
  refine lv_istore (lv' := [(6, .int q_1844.1), (5, .int (f_L_split q_1826.1)), (0, .ref b), (1, .ref (a 0)), (2, .ref (a 66)), (3, .ref (a 65)), (4, .int i)]) hx hb dL_law_1847 hl (by decide) rfl (fun ls hl => ?_)
  refine lv_aload_n hx hb dL_law_1849 rfl (lv_at hl 4 rfl) ?_
  refine g_lcM (S := (q_1826.2.2, q_1844.2, o_L_split q_1826.1 q_1826.2.1 S.2.2)) (τ' := q_1844.2) (As := []) (rest := []) F hI (c_X10_thrown l D (fun j => a (66 + j)) cI cZ (g_inj_m F.2.2.1) q_1844.2) kb_X10_thrown ki_X10_thrown ks_X10_thrown km_L_118 ⟨(Nat.le_of_ble_eq_true rfl), (Nat.le_of_ble_eq_true rfl), rfl, rfl⟩ hl.1 rfl (Nat.le_of_ble_eq_true rfl) ⟨(by show _ ≤ 601024; omega), (by show _ ≤ 7293000; omega)⟩ dL_law_1850 (fun H locs hI => ?_)
  have hI : g_LS D a (lE a cI cZ cJ (q_1826.2.2, q_1844.2, o_L_split q_1826.1 q_1826.2.1 S.2.2)) s H locs := hI
  refine lv_iload hx hb dL_law_1853 (lv_at hl 1 rfl) ?_
  refine lv_icmp_eq (tgt := 1860) hx hb dL_law_1855 (by decide) (fun c_1855 => ?_) (fun c_1855 => ?_)
  · have h := (if_pos c_1855).symm.trans h
    refine lv_iload hx hb dL_law_1860 (lv_at hl 1 rfl) ?_
    obtain ⟨j1877, hj1877, h⟩ := gJoin0_in h
    have J1877 : ∀ (H : Heap) (locs : List Loc) (ls : Array Slot), j1877  = some out → g_LS D a (lE a cI cZ cJ (q_1826.2.2, q_1844.2, o_L_split q_1826.1 q_1826.2.1 S.2.2)) s H locs → lv_has ls 7 [(0, .ref b), (1, .ref (a 0)), (2, .ref (a 66)), (3, .ref (a 65)), (4, .int i)] → W p l e room_1 s m #[Value.ref b] below meth c H locs (K + 2) (SL + 12) Q (F0 m 1877 ls []) := by
      intro  H locs ls h hI hl
      rw [hj1877] at h
      refine lv_goto (tgt := 2060) hx hb dL_law_1877 (by decide) ?_
      refine W.widen (k := K + 8) (n := SL + 48) (by omega) (by omega) ?_
      exact J2060 _ _ _ trivial h hI (lv_sub hl [0, 1, 2, 3, 4] rfl)
    refine lv_if_ne (tgt := 1877) hx hb dL_law_1862 (by decide) (fun c_1862 => ?_) (fun c_1862 => ?_)
    · have h := (if_neg c_1862).symm.trans h
      exact J1877 _ _ _ h hI (lv_sub hl [2, 3, 4, 5, 6] rfl)
    · have h := (if_pos c_1862).symm.trans h
      refine lv_aload_n hx hb dL_law_1865 rfl (lv_at hl 5 rfl) ?_
      refine lv_iconst (v := 0) hx hb dL_law_1866 (by decide) ?_
      refine g_llald F hI dL_law_1867 ?_
      refine lv_iload hx hb dL_law_1868 (lv_at hl 0 rfl) ?_
      refine lv_i2l hx hb dL_law_1870 rfl ?_
      refine W.lcmp hx hb dL_law_1871 ?_
      refine lv_if_eq (tgt := 1877) hx hb dL_law_1872 (by decide) (fun c_1872 => ?_) (fun c_1872 => ?_)
      · have h := (if_pos c_1872).symm.trans h
        exact J1877 _ _ _ h hI (lv_sub hl [2, 3, 4, 5, 6] rfl)
      · have h := (if_neg c_1872).symm.trans h
        refine lv_iconst (v := 0) hx hb dL_law_1875 (by decide) ?_
        have h := Option.some.inj h
        subst h
        exact hq _ _ _ _ _ _ (by omega) (by omega) hI dL_law_1876
  · have h := (if_neg c_1855).symm.trans h
    refine lv_iconst (v := 0) hx hb dL_law_1858 (by decide) ?_
    have h := Option.some.inj h
    subst h
    exact hq _ _ _ _ _ _ (by omega) (by omega) hI dL_law_1859
theorem kd_L_total : yL_total.cls ≠ "java/lang/invoke/MethodHandle" ∧ yL_total.cls ≠ "java/lang/invoke/VarHandle" ∧ (parseMethodDescriptor yL_total.desc).map (fun d => d.parameters.length) = some 3 := by decide +kernel
def f_L_case26 (N L : Nat) (xs : Nat → Int32) (i : Int32) (S : lSt) (jn : lSt → Option Int32) : Option Int32 :=
  if i + 1 < 0 ∨ L ≤ (i + 1).toNatClampNeg then none else
  (f_X9_total N S.1 (xs (i + 1).toNatClampNeg)).bind (fun (q_1888 : Nat × Int32 × gSt) =>
  if ¬ (q_1888.1 = 0 ∨ q_1888.1 = 1) then none else
  if i + 1 < 0 ∨ L ≤ (i + 1).toNatClampNeg then none else
  (f_X10_total N S.2.1 (xs (i + 1).toNatClampNeg)).bind (fun (q_1900 : Int32 × gSt) =>
  if f_X10_thrown q_1900.2 = f_L_total q_1888.1 then
    gJoin0 (
        jn (q_1888.2.2, q_1900.2, o_L_total q_1888.1 q_1888.2.1 S.2.2)) (fun j1933 =>
      if f_L_total q_1888.1 = 0 then
        if lg_cmp (o_L_total q_1888.1 q_1888.2.1 S.2.2 0) q_1900.1.toInt64 = 0 then
          j1933
        else
          some 0
      else
        j1933)
  else
    some 0))
set_option maxRecDepth 100000 in
set_option maxHeartbeats 8000000 in
theorem w_L_case26 {p : Program} {e : Env} {s : State} {m : MethodId} {below : List Frame} {meth : Method} {c : Code} {l : Launch} {b L : Nat} {xs : Nat → Int32} {D : va_G} {a : Nat → Nat} {cI cZ cJ : ClassId} {sa : Nat → Nat} {Q : State → Prop} {N : Nat} {i : Int32} {S : lSt} {jn : lSt → Option Int32} {out : Int32} {K SL : Nat} (F : g_LF p l m c s #[Value.ref b] D a cI cZ cJ sa) (hX : va_X b L xs s s.heap) (hbl : b < s.heap.size) (hK : K + 8 ≤ 601024) (hSL : SL + 48 ≤ 7293000)
    (hq : ∀ {S : lSt} (H : Heap) (locs : List Loc) (pc : Nat) (ls : Array Slot) (cl sl : Nat), cl ≤ 601024 → sl ≤ 7293000 → g_LS D a (lE a cI cZ cJ S) s H locs → decode cL_law pc = .ok (.ireturn, 1) → W p l e room_1 s m #[Value.ref b] below meth c H locs cl sl Q (F0 m pc ls [.int out]))
    (J2060 : ∀ {S : lSt} (H : Heap) (locs : List Loc) (ls : Array Slot), True → jn S = some out → g_LS D a (lE a cI cZ cJ S) s H locs → lv_has ls 7 [(0, .ref b), (1, .ref (a 0)), (2, .ref (a 66)), (3, .ref (a 65)), (4, .int i)] → W p l e room_1 s m #[Value.ref b] below meth c H locs (K + 8) (SL + 48) Q (F0 m 2060 ls []))
    (h : f_L_case26 N L xs i S jn = some out) {H : Heap} {locs : List Loc} {ls : Array Slot} (hI : g_LS D a (lE a cI cZ cJ S) s H locs) (hl : lv_has ls 7 [(0, .ref b), (1, .ref (a 0)), (2, .ref (a 66)), (3, .ref (a 65)), (4, .int i)]) : W p l e room_1 s m #[Value.ref b] below meth c H locs K SL Q (F0 m 1880 ls []) := by
  have hx := F.1.1
  have hb := F.1.2.1
  have hbA : ¬ (fun q => s.heap.size ≤ q) b := Nat.not_le.mpr hbl
  unfold f_L_case26 at h
  refine lv_aload_n hx hb dL_law_1880 rfl (lv_at hl 1 rfl) ?_
  refine lv_aload_n hx hb dL_law_1881 rfl (lv_at hl 0 rfl) ?_
  refine lv_iload hx hb dL_law_1882 (lv_at hl 4 rfl) ?_
  refine lv_iconst (v := 1) hx hb dL_law_1884 (by decide) ?_
  refine lv_iadd hx hb dL_law_1885 ?_
  obtain ⟨g_1886, h⟩ := g_guard h
  refine va_sld hx hb hX hbl hbA hI.2 g_1886 dL_law_1886 ?_
  refine lv_aload_n hx hb dL_law_1887 rfl (lv_at hl 3 rfl) ?_
  obtain ⟨q_1888, e_1888, h⟩ := gBind_in h
  obtain ⟨g_1888, h⟩ := g_guard h
  refine g_lcW (S := S) (σ' := q_1888.2.2) (f' := o_L_total q_1888.1 q_1888.2.1 S.2.2) (As := [.ref (a 0), .int (xs (i + 1).toNatClampNeg), .ref (a 65)]) (rest := []) F hI (c_L_total l D a cI cJ (g_inj_sub (by decide) F.2.2.1) F.2.2.2.2.2.2.2 sa N (xs (i + 1).toNatClampNeg) S.1 S.2.2 q_1888 e_1888 (Decidable.not_not.mp g_1888)) kh_L_total kn_L kd_L_total kt_L_total km_L_204 ⟨(Nat.le_of_ble_eq_true rfl), (Nat.le_of_ble_eq_true rfl), rfl, rfl⟩ hl.1 rfl (Nat.le_of_ble_eq_true rfl) ⟨(by show _ ≤ 601024; omega), (by show _ ≤ 7293000; omega)⟩ dL_law_1888 (fun H locs hI => ?_)
  have hI : g_LS D a (lE a cI cZ cJ (q_1888.2.2, S.2.1, o_L_total q_1888.1 q_1888.2.1 S.2.2)) s H locs := hI
  refine lv_istore (lv' := [(5, .int (f_L_total q_1888.1)), (0, .ref b), (1, .ref (a 0)), (2, .ref (a 66)), (3, .ref (a 65)), (4, .int i)]) hx hb dL_law_1891 hl (by decide) rfl (fun ls hl => ?_)
  refine lv_aload_n hx hb dL_law_1893 rfl (lv_at hl 3 rfl) ?_
  refine lv_aload_n hx hb dL_law_1894 rfl (lv_at hl 1 rfl) ?_
  refine lv_iload hx hb dL_law_1895 (lv_at hl 5 rfl) ?_
  refine lv_iconst (v := 1) hx hb dL_law_1897 (by decide) ?_
  refine lv_iadd hx hb dL_law_1898 ?_
  obtain ⟨g_1899, h⟩ := g_guard h
  refine va_sld hx hb hX hbl hbA hI.2 g_1899 dL_law_1899 ?_
  obtain ⟨q_1900, e_1900, h⟩ := gBind_in h
  refine g_lcM (S := (q_1888.2.2, S.2.1, o_L_total q_1888.1 q_1888.2.1 S.2.2)) (τ' := q_1900.2) (As := [.int (xs (i + 1).toNatClampNeg)]) (rest := []) F hI (c_X10_total l D (fun j => a (66 + j)) cI cZ (g_inj_m F.2.2.1) N S.2.1 (xs (i + 1).toNatClampNeg) q_1900 e_1900) kb_X10_total ki_X10_total ks_X10_total km_L_206 ⟨(Nat.le_of_ble_eq_true rfl), (Nat.le_of_ble_eq_true rfl), rfl, rfl⟩ hl.1 rfl (Nat.le_of_ble_eq_true rfl) ⟨(by show _ ≤ 601024; omega), (by show _ ≤ 7293000; omega)⟩ dL_law_1900 (fun H locs hI => ?_)
  have hI : g_LS D a (lE a cI cZ cJ (q_1888.2.2, q_1900.2, o_L_total q_1888.1 q_1888.2.1 S.2.2)) s H locs := hI
  refine lv_istore (lv' := [(6, .int q_1900.1), (5, .int (f_L_total q_1888.1)), (0, .ref b), (1, .ref (a 0)), (2, .ref (a 66)), (3, .ref (a 65)), (4, .int i)]) hx hb dL_law_1903 hl (by decide) rfl (fun ls hl => ?_)
  refine lv_aload_n hx hb dL_law_1905 rfl (lv_at hl 4 rfl) ?_
  refine g_lcM (S := (q_1888.2.2, q_1900.2, o_L_total q_1888.1 q_1888.2.1 S.2.2)) (τ' := q_1900.2) (As := []) (rest := []) F hI (c_X10_thrown l D (fun j => a (66 + j)) cI cZ (g_inj_m F.2.2.1) q_1900.2) kb_X10_thrown ki_X10_thrown ks_X10_thrown km_L_118 ⟨(Nat.le_of_ble_eq_true rfl), (Nat.le_of_ble_eq_true rfl), rfl, rfl⟩ hl.1 rfl (Nat.le_of_ble_eq_true rfl) ⟨(by show _ ≤ 601024; omega), (by show _ ≤ 7293000; omega)⟩ dL_law_1906 (fun H locs hI => ?_)
  have hI : g_LS D a (lE a cI cZ cJ (q_1888.2.2, q_1900.2, o_L_total q_1888.1 q_1888.2.1 S.2.2)) s H locs := hI
  refine lv_iload hx hb dL_law_1909 (lv_at hl 1 rfl) ?_
  refine lv_icmp_eq (tgt := 1916) hx hb dL_law_1911 (by decide) (fun c_1911 => ?_) (fun c_1911 => ?_)
  · have h := (if_pos c_1911).symm.trans h
    refine lv_iload hx hb dL_law_1916 (lv_at hl 1 rfl) ?_
    obtain ⟨j1933, hj1933, h⟩ := gJoin0_in h
    have J1933 : ∀ (H : Heap) (locs : List Loc) (ls : Array Slot), j1933  = some out → g_LS D a (lE a cI cZ cJ (q_1888.2.2, q_1900.2, o_L_total q_1888.1 q_1888.2.1 S.2.2)) s H locs → lv_has ls 7 [(0, .ref b), (1, .ref (a 0)), (2, .ref (a 66)), (3, .ref (a 65)), (4, .int i)] → W p l e room_1 s m #[Value.ref b] below meth c H locs (K + 1) (SL + 6) Q (F0 m 1933 ls []) := by
      intro  H locs ls h hI hl
      rw [hj1933] at h
      refine lv_goto (tgt := 2060) hx hb dL_law_1933 (by decide) ?_
      refine W.widen (k := K + 8) (n := SL + 48) (by omega) (by omega) ?_
      exact J2060 _ _ _ trivial h hI (lv_sub hl [0, 1, 2, 3, 4] rfl)
    refine lv_if_ne (tgt := 1933) hx hb dL_law_1918 (by decide) (fun c_1918 => ?_) (fun c_1918 => ?_)
    · have h := (if_neg c_1918).symm.trans h
      exact J1933 _ _ _ h hI (lv_sub hl [2, 3, 4, 5, 6] rfl)
    · have h := (if_pos c_1918).symm.trans h
      refine lv_aload_n hx hb dL_law_1921 rfl (lv_at hl 5 rfl) ?_
      refine lv_iconst (v := 0) hx hb dL_law_1922 (by decide) ?_
      refine g_llald F hI dL_law_1923 ?_
      refine lv_iload hx hb dL_law_1924 (lv_at hl 0 rfl) ?_
      refine lv_i2l hx hb dL_law_1926 rfl ?_
      refine W.lcmp hx hb dL_law_1927 ?_
      refine lv_if_eq (tgt := 1933) hx hb dL_law_1928 (by decide) (fun c_1928 => ?_) (fun c_1928 => ?_)
      · have h := (if_pos c_1928).symm.trans h
        exact J1933 _ _ _ h hI (lv_sub hl [2, 3, 4, 5, 6] rfl)
      · have h := (if_neg c_1928).symm.trans h
        refine lv_iconst (v := 0) hx hb dL_law_1931 (by decide) ?_
        have h := Option.some.inj h
        subst h
        exact hq _ _ _ _ _ _ (by omega) (by omega) hI dL_law_1932
  · have h := (if_neg c_1911).symm.trans h
    refine lv_iconst (v := 0) hx hb dL_law_1914 (by decide) ?_
    have h := Option.some.inj h
    subst h
    exact hq _ _ _ _ _ _ (by omega) (by omega) hI dL_law_1915
theorem kd_L_rank : yL_rank.cls ≠ "java/lang/invoke/MethodHandle" ∧ yL_rank.cls ≠ "java/lang/invoke/VarHandle" ∧ (parseMethodDescriptor yL_rank.desc).map (fun d => d.parameters.length) = some 3 := by decide +kernel
def f_L_case27 (N L : Nat) (xs : Nat → Int32) (i : Int32) (S : lSt) (jn : lSt → Option Int32) : Option Int32 :=
  if i + 1 < 0 ∨ L ≤ (i + 1).toNatClampNeg then none else
  (f_X9_rank N S.1 (xs (i + 1).toNatClampNeg)).bind (fun (q_1944 : Nat × Int32 × gSt) =>
  if ¬ (q_1944.1 = 0 ∨ q_1944.1 = 1) then none else
  if i + 1 < 0 ∨ L ≤ (i + 1).toNatClampNeg then none else
  (f_X10_rank N S.2.1 (xs (i + 1).toNatClampNeg)).bind (fun (q_1956 : Int32 × gSt) =>
  if f_X10_thrown q_1956.2 = f_L_rank q_1944.1 then
    gJoin0 (
        jn (q_1944.2.2, q_1956.2, o_L_rank q_1944.1 q_1944.2.1 S.2.2)) (fun j1989 =>
      if f_L_rank q_1944.1 = 0 then
        if lg_cmp (o_L_rank q_1944.1 q_1944.2.1 S.2.2 0) q_1956.1.toInt64 = 0 then
          j1989
        else
          some 0
      else
        j1989)
  else
    some 0))
set_option maxRecDepth 100000 in
set_option maxHeartbeats 8000000 in
theorem w_L_case27 {p : Program} {e : Env} {s : State} {m : MethodId} {below : List Frame} {meth : Method} {c : Code} {l : Launch} {b L : Nat} {xs : Nat → Int32} {D : va_G} {a : Nat → Nat} {cI cZ cJ : ClassId} {sa : Nat → Nat} {Q : State → Prop} {N : Nat} {i : Int32} {S : lSt} {jn : lSt → Option Int32} {out : Int32} {K SL : Nat} (F : g_LF p l m c s #[Value.ref b] D a cI cZ cJ sa) (hX : va_X b L xs s s.heap) (hbl : b < s.heap.size) (hK : K + 8 ≤ 601024) (hSL : SL + 48 ≤ 7293000)
    (hq : ∀ {S : lSt} (H : Heap) (locs : List Loc) (pc : Nat) (ls : Array Slot) (cl sl : Nat), cl ≤ 601024 → sl ≤ 7293000 → g_LS D a (lE a cI cZ cJ S) s H locs → decode cL_law pc = .ok (.ireturn, 1) → W p l e room_1 s m #[Value.ref b] below meth c H locs cl sl Q (F0 m pc ls [.int out]))
    (J2060 : ∀ {S : lSt} (H : Heap) (locs : List Loc) (ls : Array Slot), True → jn S = some out → g_LS D a (lE a cI cZ cJ S) s H locs → lv_has ls 7 [(0, .ref b), (1, .ref (a 0)), (2, .ref (a 66)), (3, .ref (a 65)), (4, .int i)] → W p l e room_1 s m #[Value.ref b] below meth c H locs (K + 8) (SL + 48) Q (F0 m 2060 ls []))
    (h : f_L_case27 N L xs i S jn = some out) {H : Heap} {locs : List Loc} {ls : Array Slot} (hI : g_LS D a (lE a cI cZ cJ S) s H locs) (hl : lv_has ls 7 [(0, .ref b), (1, .ref (a 0)), (2, .ref (a 66)), (3, .ref (a 65)), (4, .int i)]) : W p l e room_1 s m #[Value.ref b] below meth c H locs K SL Q (F0 m 1936 ls []) := by
  have hx := F.1.1
  have hb := F.1.2.1
  have hbA : ¬ (fun q => s.heap.size ≤ q) b := Nat.not_le.mpr hbl
  unfold f_L_case27 at h
  refine lv_aload_n hx hb dL_law_1936 rfl (lv_at hl 1 rfl) ?_
  refine lv_aload_n hx hb dL_law_1937 rfl (lv_at hl 0 rfl) ?_
  refine lv_iload hx hb dL_law_1938 (lv_at hl 4 rfl) ?_
  refine lv_iconst (v := 1) hx hb dL_law_1940 (by decide) ?_
  refine lv_iadd hx hb dL_law_1941 ?_
  obtain ⟨g_1942, h⟩ := g_guard h
  refine va_sld hx hb hX hbl hbA hI.2 g_1942 dL_law_1942 ?_
  refine lv_aload_n hx hb dL_law_1943 rfl (lv_at hl 3 rfl) ?_
  obtain ⟨q_1944, e_1944, h⟩ := gBind_in h
  obtain ⟨g_1944, h⟩ := g_guard h
  refine g_lcW (S := S) (σ' := q_1944.2.2) (f' := o_L_rank q_1944.1 q_1944.2.1 S.2.2) (As := [.ref (a 0), .int (xs (i + 1).toNatClampNeg), .ref (a 65)]) (rest := []) F hI (c_L_rank l D a cI cJ (g_inj_sub (by decide) F.2.2.1) F.2.2.2.2.2.2.2 sa N (xs (i + 1).toNatClampNeg) S.1 S.2.2 q_1944 e_1944 (Decidable.not_not.mp g_1944)) kh_L_rank kn_L kd_L_rank kt_L_rank km_L_207 ⟨(Nat.le_of_ble_eq_true rfl), (Nat.le_of_ble_eq_true rfl), rfl, rfl⟩ hl.1 rfl (Nat.le_of_ble_eq_true rfl) ⟨(by show _ ≤ 601024; omega), (by show _ ≤ 7293000; omega)⟩ dL_law_1944 (fun H locs hI => ?_)
  have hI : g_LS D a (lE a cI cZ cJ (q_1944.2.2, S.2.1, o_L_rank q_1944.1 q_1944.2.1 S.2.2)) s H locs := hI
  refine lv_istore (lv' := [(5, .int (f_L_rank q_1944.1)), (0, .ref b), (1, .ref (a 0)), (2, .ref (a 66)), (3, .ref (a 65)), (4, .int i)]) hx hb dL_law_1947 hl (by decide) rfl (fun ls hl => ?_)
  refine lv_aload_n hx hb dL_law_1949 rfl (lv_at hl 3 rfl) ?_
  refine lv_aload_n hx hb dL_law_1950 rfl (lv_at hl 1 rfl) ?_
  refine lv_iload hx hb dL_law_1951 (lv_at hl 5 rfl) ?_
  refine lv_iconst (v := 1) hx hb dL_law_1953 (by decide) ?_
  refine lv_iadd hx hb dL_law_1954 ?_
  obtain ⟨g_1955, h⟩ := g_guard h
  refine va_sld hx hb hX hbl hbA hI.2 g_1955 dL_law_1955 ?_
  obtain ⟨q_1956, e_1956, h⟩ := gBind_in h
  refine g_lcM (S := (q_1944.2.2, S.2.1, o_L_rank q_1944.1 q_1944.2.1 S.2.2)) (τ' := q_1956.2) (As := [.int (xs (i + 1).toNatClampNeg)]) (rest := []) F hI (c_X10_rank l D (fun j => a (66 + j)) cI cZ (g_inj_m F.2.2.1) N S.2.1 (xs (i + 1).toNatClampNeg) q_1956 e_1956) kb_X10_rank ki_X10_rank ks_X10_rank km_L_209 ⟨(Nat.le_of_ble_eq_true rfl), (Nat.le_of_ble_eq_true rfl), rfl, rfl⟩ hl.1 rfl (Nat.le_of_ble_eq_true rfl) ⟨(by show _ ≤ 601024; omega), (by show _ ≤ 7293000; omega)⟩ dL_law_1956 (fun H locs hI => ?_)
  have hI : g_LS D a (lE a cI cZ cJ (q_1944.2.2, q_1956.2, o_L_rank q_1944.1 q_1944.2.1 S.2.2)) s H locs := hI
  refine lv_istore (lv' := [(6, .int q_1956.1), (5, .int (f_L_rank q_1944.1)), (0, .ref b), (1, .ref (a 0)), (2, .ref (a 66)), (3, .ref (a 65)), (4, .int i)]) hx hb dL_law_1959 hl (by decide) rfl (fun ls hl => ?_)
  refine lv_aload_n hx hb dL_law_1961 rfl (lv_at hl 4 rfl) ?_
  refine g_lcM (S := (q_1944.2.2, q_1956.2, o_L_rank q_1944.1 q_1944.2.1 S.2.2)) (τ' := q_1956.2) (As := []) (rest := []) F hI (c_X10_thrown l D (fun j => a (66 + j)) cI cZ (g_inj_m F.2.2.1) q_1956.2) kb_X10_thrown ki_X10_thrown ks_X10_thrown km_L_118 ⟨(Nat.le_of_ble_eq_true rfl), (Nat.le_of_ble_eq_true rfl), rfl, rfl⟩ hl.1 rfl (Nat.le_of_ble_eq_true rfl) ⟨(by show _ ≤ 601024; omega), (by show _ ≤ 7293000; omega)⟩ dL_law_1962 (fun H locs hI => ?_)
  have hI : g_LS D a (lE a cI cZ cJ (q_1944.2.2, q_1956.2, o_L_rank q_1944.1 q_1944.2.1 S.2.2)) s H locs := hI
  refine lv_iload hx hb dL_law_1965 (lv_at hl 1 rfl) ?_
  refine lv_icmp_eq (tgt := 1972) hx hb dL_law_1967 (by decide) (fun c_1967 => ?_) (fun c_1967 => ?_)
  · have h := (if_pos c_1967).symm.trans h
    refine lv_iload hx hb dL_law_1972 (lv_at hl 1 rfl) ?_
    obtain ⟨j1989, hj1989, h⟩ := gJoin0_in h
    have J1989 : ∀ (H : Heap) (locs : List Loc) (ls : Array Slot), j1989  = some out → g_LS D a (lE a cI cZ cJ (q_1944.2.2, q_1956.2, o_L_rank q_1944.1 q_1944.2.1 S.2.2)) s H locs → lv_has ls 7 [(0, .ref b), (1, .ref (a 0)), (2, .ref (a 66)), (3, .ref (a 65)), (4, .int i)] → W p l e room_1 s m #[Value.ref b] below meth c H locs (K + 1) (SL + 6) Q (F0 m 1989 ls []) := by
      intro  H locs ls h hI hl
      rw [hj1989] at h
      refine lv_goto (tgt := 2060) hx hb dL_law_1989 (by decide) ?_
      refine W.widen (k := K + 8) (n := SL + 48) (by omega) (by omega) ?_
      exact J2060 _ _ _ trivial h hI (lv_sub hl [0, 1, 2, 3, 4] rfl)
    refine lv_if_ne (tgt := 1989) hx hb dL_law_1974 (by decide) (fun c_1974 => ?_) (fun c_1974 => ?_)
    · have h := (if_neg c_1974).symm.trans h
      exact J1989 _ _ _ h hI (lv_sub hl [2, 3, 4, 5, 6] rfl)
    · have h := (if_pos c_1974).symm.trans h
      refine lv_aload_n hx hb dL_law_1977 rfl (lv_at hl 5 rfl) ?_
      refine lv_iconst (v := 0) hx hb dL_law_1978 (by decide) ?_
      refine g_llald F hI dL_law_1979 ?_
      refine lv_iload hx hb dL_law_1980 (lv_at hl 0 rfl) ?_
      refine lv_i2l hx hb dL_law_1982 rfl ?_
      refine W.lcmp hx hb dL_law_1983 ?_
      refine lv_if_eq (tgt := 1989) hx hb dL_law_1984 (by decide) (fun c_1984 => ?_) (fun c_1984 => ?_)
      · have h := (if_pos c_1984).symm.trans h
        exact J1989 _ _ _ h hI (lv_sub hl [2, 3, 4, 5, 6] rfl)
      · have h := (if_neg c_1984).symm.trans h
        refine lv_iconst (v := 0) hx hb dL_law_1987 (by decide) ?_
        have h := Option.some.inj h
        subst h
        exact hq _ _ _ _ _ _ (by omega) (by omega) hI dL_law_1988
  · have h := (if_neg c_1967).symm.trans h
    refine lv_iconst (v := 0) hx hb dL_law_1970 (by decide) ?_
    have h := Option.some.inj h
    subst h
    exact hq _ _ _ _ _ _ (by omega) (by omega) hI dL_law_1971
theorem kd_L_lost : yL_lost.cls ≠ "java/lang/invoke/MethodHandle" ∧ yL_lost.cls ≠ "java/lang/invoke/VarHandle" ∧ (parseMethodDescriptor yL_lost.desc).map (fun d => d.parameters.length) = some 4 := by decide +kernel
def f_L_case28 (N L : Nat) (xs : Nat → Int32) (i : Int32) (S : lSt) (jn : lSt → Option Int32) : Option Int32 :=
  if i + 1 < 0 ∨ L ≤ (i + 1).toNatClampNeg then none else
  if i + 2 < 0 ∨ L ≤ (i + 2).toNatClampNeg then none else
  (f_X9_lost N S.1 (xs (i + 1).toNatClampNeg) (xs (i + 2).toNatClampNeg)).bind (fun (q_2006 : Nat × Int32 × gSt) =>
  if ¬ (q_2006.1 = 0 ∨ q_2006.1 = 1) then none else
  if i + 1 < 0 ∨ L ≤ (i + 1).toNatClampNeg then none else
  if i + 2 < 0 ∨ L ≤ (i + 2).toNatClampNeg then none else
  (f_X10_lost N S.2.1 (xs (i + 1).toNatClampNeg) (xs (i + 2).toNatClampNeg)).bind (fun (q_2024 : Int32 × gSt) =>
  if f_X10_thrown q_2024.2 = f_L_lost q_2006.1 then
    gJoin0 (
        jn (q_2006.2.2, q_2024.2, o_L_lost q_2006.1 q_2006.2.1 S.2.2)) (fun j2057 =>
      if f_L_lost q_2006.1 = 0 then
        if lg_cmp (o_L_lost q_2006.1 q_2006.2.1 S.2.2 0) q_2024.1.toInt64 = 0 then
          j2057
        else
          some 0
      else
        j2057)
  else
    some 0))
set_option maxRecDepth 100000 in
set_option maxHeartbeats 8000000 in
theorem w_L_case28 {p : Program} {e : Env} {s : State} {m : MethodId} {below : List Frame} {meth : Method} {c : Code} {l : Launch} {b L : Nat} {xs : Nat → Int32} {D : va_G} {a : Nat → Nat} {cI cZ cJ : ClassId} {sa : Nat → Nat} {Q : State → Prop} {N : Nat} {i : Int32} {S : lSt} {jn : lSt → Option Int32} {out : Int32} {K SL : Nat} (F : g_LF p l m c s #[Value.ref b] D a cI cZ cJ sa) (hX : va_X b L xs s s.heap) (hbl : b < s.heap.size) (hK : K + 8 ≤ 601024) (hSL : SL + 48 ≤ 7293000)
    (hq : ∀ {S : lSt} (H : Heap) (locs : List Loc) (pc : Nat) (ls : Array Slot) (cl sl : Nat), cl ≤ 601024 → sl ≤ 7293000 → g_LS D a (lE a cI cZ cJ S) s H locs → decode cL_law pc = .ok (.ireturn, 1) → W p l e room_1 s m #[Value.ref b] below meth c H locs cl sl Q (F0 m pc ls [.int out]))
    (J2060 : ∀ {S : lSt} (H : Heap) (locs : List Loc) (ls : Array Slot), True → jn S = some out → g_LS D a (lE a cI cZ cJ S) s H locs → lv_has ls 7 [(0, .ref b), (1, .ref (a 0)), (2, .ref (a 66)), (3, .ref (a 65)), (4, .int i)] → W p l e room_1 s m #[Value.ref b] below meth c H locs (K + 8) (SL + 48) Q (F0 m 2060 ls []))
    (h : f_L_case28 N L xs i S jn = some out) {H : Heap} {locs : List Loc} {ls : Array Slot} (hI : g_LS D a (lE a cI cZ cJ S) s H locs) (hl : lv_has ls 7 [(0, .ref b), (1, .ref (a 0)), (2, .ref (a 66)), (3, .ref (a 65)), (4, .int i)]) : W p l e room_1 s m #[Value.ref b] below meth c H locs K SL Q (F0 m 1992 ls []) := by
  have hx := F.1.1
  have hb := F.1.2.1
  have hbA : ¬ (fun q => s.heap.size ≤ q) b := Nat.not_le.mpr hbl
  unfold f_L_case28 at h
  refine lv_aload_n hx hb dL_law_1992 rfl (lv_at hl 1 rfl) ?_
  refine lv_aload_n hx hb dL_law_1993 rfl (lv_at hl 0 rfl) ?_
  refine lv_iload hx hb dL_law_1994 (lv_at hl 4 rfl) ?_
  refine lv_iconst (v := 1) hx hb dL_law_1996 (by decide) ?_
  refine lv_iadd hx hb dL_law_1997 ?_
  obtain ⟨g_1998, h⟩ := g_guard h
  refine va_sld hx hb hX hbl hbA hI.2 g_1998 dL_law_1998 ?_
  refine lv_aload_n hx hb dL_law_1999 rfl (lv_at hl 0 rfl) ?_
  refine lv_iload hx hb dL_law_2000 (lv_at hl 4 rfl) ?_
  refine lv_iconst (v := 2) hx hb dL_law_2002 (by decide) ?_
  refine lv_iadd hx hb dL_law_2003 ?_
  obtain ⟨g_2004, h⟩ := g_guard h
  refine va_sld hx hb hX hbl hbA hI.2 g_2004 dL_law_2004 ?_
  refine lv_aload_n hx hb dL_law_2005 rfl (lv_at hl 3 rfl) ?_
  obtain ⟨q_2006, e_2006, h⟩ := gBind_in h
  obtain ⟨g_2006, h⟩ := g_guard h
  refine g_lcW (S := S) (σ' := q_2006.2.2) (f' := o_L_lost q_2006.1 q_2006.2.1 S.2.2) (As := [.ref (a 0), .int (xs (i + 1).toNatClampNeg), .int (xs (i + 2).toNatClampNeg), .ref (a 65)]) (rest := []) F hI (c_L_lost l D a cI cJ (g_inj_sub (by decide) F.2.2.1) F.2.2.2.2.2.2.2 sa N (xs (i + 1).toNatClampNeg) (xs (i + 2).toNatClampNeg) S.1 S.2.2 q_2006 e_2006 (Decidable.not_not.mp g_2006)) kh_L_lost kn_L kd_L_lost kt_L_lost km_L_210 ⟨(Nat.le_of_ble_eq_true rfl), (Nat.le_of_ble_eq_true rfl), rfl, rfl⟩ hl.1 rfl (Nat.le_of_ble_eq_true rfl) ⟨(by show _ ≤ 601024; omega), (by show _ ≤ 7293000; omega)⟩ dL_law_2006 (fun H locs hI => ?_)
  have hI : g_LS D a (lE a cI cZ cJ (q_2006.2.2, S.2.1, o_L_lost q_2006.1 q_2006.2.1 S.2.2)) s H locs := hI
  refine lv_istore (lv' := [(5, .int (f_L_lost q_2006.1)), (0, .ref b), (1, .ref (a 0)), (2, .ref (a 66)), (3, .ref (a 65)), (4, .int i)]) hx hb dL_law_2009 hl (by decide) rfl (fun ls hl => ?_)
  refine lv_aload_n hx hb dL_law_2011 rfl (lv_at hl 3 rfl) ?_
  refine lv_aload_n hx hb dL_law_2012 rfl (lv_at hl 1 rfl) ?_
  refine lv_iload hx hb dL_law_2013 (lv_at hl 5 rfl) ?_
  refine lv_iconst (v := 1) hx hb dL_law_2015 (by decide) ?_
  refine lv_iadd hx hb dL_law_2016 ?_
  obtain ⟨g_2017, h⟩ := g_guard h
  refine va_sld hx hb hX hbl hbA hI.2 g_2017 dL_law_2017 ?_
  refine lv_aload_n hx hb dL_law_2018 rfl (lv_at hl 1 rfl) ?_
  refine lv_iload hx hb dL_law_2019 (lv_at hl 5 rfl) ?_
  refine lv_iconst (v := 2) hx hb dL_law_2021 (by decide) ?_
  refine lv_iadd hx hb dL_law_2022 ?_
  obtain ⟨g_2023, h⟩ := g_guard h
  refine va_sld hx hb hX hbl hbA hI.2 g_2023 dL_law_2023 ?_
  obtain ⟨q_2024, e_2024, h⟩ := gBind_in h
  refine g_lcM (S := (q_2006.2.2, S.2.1, o_L_lost q_2006.1 q_2006.2.1 S.2.2)) (τ' := q_2024.2) (As := [.int (xs (i + 1).toNatClampNeg), .int (xs (i + 2).toNatClampNeg)]) (rest := []) F hI (c_X10_lost l D (fun j => a (66 + j)) cI cZ (g_inj_m F.2.2.1) N S.2.1 (xs (i + 1).toNatClampNeg) (xs (i + 2).toNatClampNeg) q_2024 e_2024) kb_X10_lost ki_X10_lost ks_X10_lost km_L_212 ⟨(Nat.le_of_ble_eq_true rfl), (Nat.le_of_ble_eq_true rfl), rfl, rfl⟩ hl.1 rfl (Nat.le_of_ble_eq_true rfl) ⟨(by show _ ≤ 601024; omega), (by show _ ≤ 7293000; omega)⟩ dL_law_2024 (fun H locs hI => ?_)
  have hI : g_LS D a (lE a cI cZ cJ (q_2006.2.2, q_2024.2, o_L_lost q_2006.1 q_2006.2.1 S.2.2)) s H locs := hI
  refine lv_istore (lv' := [(6, .int q_2024.1), (5, .int (f_L_lost q_2006.1)), (0, .ref b), (1, .ref (a 0)), (2, .ref (a 66)), (3, .ref (a 65)), (4, .int i)]) hx hb dL_law_2027 hl (by decide) rfl (fun ls hl => ?_)
  refine lv_aload_n hx hb dL_law_2029 rfl (lv_at hl 4 rfl) ?_
  refine g_lcM (S := (q_2006.2.2, q_2024.2, o_L_lost q_2006.1 q_2006.2.1 S.2.2)) (τ' := q_2024.2) (As := []) (rest := []) F hI (c_X10_thrown l D (fun j => a (66 + j)) cI cZ (g_inj_m F.2.2.1) q_2024.2) kb_X10_thrown ki_X10_thrown ks_X10_thrown km_L_118 ⟨(Nat.le_of_ble_eq_true rfl), (Nat.le_of_ble_eq_true rfl), rfl, rfl⟩ hl.1 rfl (Nat.le_of_ble_eq_true rfl) ⟨(by show _ ≤ 601024; omega), (by show _ ≤ 7293000; omega)⟩ dL_law_2030 (fun H locs hI => ?_)
  have hI : g_LS D a (lE a cI cZ cJ (q_2006.2.2, q_2024.2, o_L_lost q_2006.1 q_2006.2.1 S.2.2)) s H locs := hI
  refine lv_iload hx hb dL_law_2033 (lv_at hl 1 rfl) ?_
  refine lv_icmp_eq (tgt := 2040) hx hb dL_law_2035 (by decide) (fun c_2035 => ?_) (fun c_2035 => ?_)
  · have h := (if_pos c_2035).symm.trans h
    refine lv_iload hx hb dL_law_2040 (lv_at hl 1 rfl) ?_
    obtain ⟨j2057, hj2057, h⟩ := gJoin0_in h
    have J2057 : ∀ (H : Heap) (locs : List Loc) (ls : Array Slot), j2057  = some out → g_LS D a (lE a cI cZ cJ (q_2006.2.2, q_2024.2, o_L_lost q_2006.1 q_2006.2.1 S.2.2)) s H locs → lv_has ls 7 [(0, .ref b), (1, .ref (a 0)), (2, .ref (a 66)), (3, .ref (a 65)), (4, .int i)] → W p l e room_1 s m #[Value.ref b] below meth c H locs (K + 2) (SL + 12) Q (F0 m 2057 ls []) := by
      intro  H locs ls h hI hl
      rw [hj2057] at h
      refine lv_goto (tgt := 2060) hx hb dL_law_2057 (by decide) ?_
      refine W.widen (k := K + 8) (n := SL + 48) (by omega) (by omega) ?_
      exact J2060 _ _ _ trivial h hI (lv_sub hl [0, 1, 2, 3, 4] rfl)
    refine lv_if_ne (tgt := 2057) hx hb dL_law_2042 (by decide) (fun c_2042 => ?_) (fun c_2042 => ?_)
    · have h := (if_neg c_2042).symm.trans h
      exact J2057 _ _ _ h hI (lv_sub hl [2, 3, 4, 5, 6] rfl)
    · have h := (if_pos c_2042).symm.trans h
      refine lv_aload_n hx hb dL_law_2045 rfl (lv_at hl 5 rfl) ?_
      refine lv_iconst (v := 0) hx hb dL_law_2046 (by decide) ?_
      refine g_llald F hI dL_law_2047 ?_
      refine lv_iload hx hb dL_law_2048 (lv_at hl 0 rfl) ?_
      refine lv_i2l hx hb dL_law_2050 rfl ?_
      refine W.lcmp hx hb dL_law_2051 ?_
      refine lv_if_eq (tgt := 2057) hx hb dL_law_2052 (by decide) (fun c_2052 => ?_) (fun c_2052 => ?_)
      · have h := (if_pos c_2052).symm.trans h
        exact J2057 _ _ _ h hI (lv_sub hl [2, 3, 4, 5, 6] rfl)
      · have h := (if_neg c_2052).symm.trans h
        refine lv_iconst (v := 0) hx hb dL_law_2055 (by decide) ?_
        have h := Option.some.inj h
        subst h
        exact hq _ _ _ _ _ _ (by omega) (by omega) hI dL_law_2056
  · have h := (if_neg c_2035).symm.trans h
    refine lv_iconst (v := 0) hx hb dL_law_2038 (by decide) ?_
    have h := Option.some.inj h
    subst h
    exact hq _ _ _ _ _ _ (by omega) (by omega) hI dL_law_2039
