theorem kd_L_setHeight : yL_setHeight.cls ≠ "java/lang/invoke/MethodHandle" ∧ yL_setHeight.cls ≠ "java/lang/invoke/VarHandle" ∧ (parseMethodDescriptor yL_setHeight.desc).map (fun d => d.parameters.length) = some 5 := by decide +kernel
def f_L_case0 (N L : Nat) (xs : Nat → Int32) (i : Int32) (S : lSt) (jn : lSt → Option Int32) : Option Int32 :=
  if i + 1 < 0 ∨ L ≤ (i + 1).toNatClampNeg then none else
  if i + 2 < 0 ∨ L ≤ (i + 2).toNatClampNeg then none else
  if i + 3 < 0 ∨ L ≤ (i + 3).toNatClampNeg then none else
  (some (f_X9_setHeight S.1 (xs (i + 1).toNatClampNeg) (xs (i + 2).toNatClampNeg) (xs (i + 3).toNatClampNeg))).bind (fun (q_212 : Nat × Int32 × gSt) =>
  if ¬ (q_212.1 = 0 ∨ q_212.1 = 1 ∨ q_212.1 = 2) then none else
  if i + 1 < 0 ∨ L ≤ (i + 1).toNatClampNeg then none else
  if i + 2 < 0 ∨ L ≤ (i + 2).toNatClampNeg then none else
  if i + 3 < 0 ∨ L ≤ (i + 3).toNatClampNeg then none else
  (f_X10_setHeight N S.2.1 (xs (i + 1).toNatClampNeg) (xs (i + 2).toNatClampNeg) (xs (i + 3).toNatClampNeg)).bind (fun (q_236 : Int32 × gSt) =>
  if f_X10_thrown q_236.2 = f_L_setHeight q_212.1 then
    gJoin0 (
        jn (q_212.2.2, q_236.2, o_L_setHeight q_212.1 q_212.2.1 S.2.2)) (fun j269 =>
      if f_L_setHeight q_212.1 = 0 then
        if lg_cmp (o_L_setHeight q_212.1 q_212.2.1 S.2.2 0) q_236.1.toInt64 = 0 then
          j269
        else
          some 0
      else
        j269)
  else
    some 0))
set_option maxRecDepth 100000 in
set_option maxHeartbeats 8000000 in
theorem w_L_case0 {p : Program} {e : Env} {s : State} {m : MethodId} {below : List Frame} {meth : Method} {c : Code} {l : Launch} {b L : Nat} {xs : Nat → Int32} {D : va_G} {a : Nat → Nat} {cI cZ cJ : ClassId} {sa : Nat → Nat} {Q : State → Prop} {N : Nat} {i : Int32} {S : lSt} {jn : lSt → Option Int32} {out : Int32} {K SL : Nat} (F : g_LF p l m c s #[Value.ref b] D a cI cZ cJ sa) (hX : va_X b L xs s s.heap) (hbl : b < s.heap.size) (hK : K + 8 ≤ 601024) (hSL : SL + 48 ≤ 7293000)
    (hq : ∀ {S : lSt} (H : Heap) (locs : List Loc) (pc : Nat) (ls : Array Slot) (cl sl : Nat), cl ≤ 601024 → sl ≤ 7293000 → g_LS D a (lE a cI cZ cJ S) s H locs → decode cL_law pc = .ok (.ireturn, 1) → W p l e room_1 s m #[Value.ref b] below meth c H locs cl sl Q (F0 m pc ls [.int out]))
    (J2060 : ∀ {S : lSt} (H : Heap) (locs : List Loc) (ls : Array Slot), True → jn S = some out → g_LS D a (lE a cI cZ cJ S) s H locs → lv_has ls 7 [(0, .ref b), (1, .ref (a 0)), (2, .ref (a 66)), (3, .ref (a 65)), (4, .int i)] → W p l e room_1 s m #[Value.ref b] below meth c H locs (K + 8) (SL + 48) Q (F0 m 2060 ls []))
    (h : f_L_case0 N L xs i S jn = some out) {H : Heap} {locs : List Loc} {ls : Array Slot} (hI : g_LS D a (lE a cI cZ cJ S) s H locs) (hl : lv_has ls 7 [(0, .ref b), (1, .ref (a 0)), (2, .ref (a 66)), (3, .ref (a 65)), (4, .int i)]) : W p l e room_1 s m #[Value.ref b] below meth c H locs K SL Q (F0 m 192 ls []) := by
  have hx := F.1.1
  have hb := F.1.2.1
  have hbA : ¬ (fun q => s.heap.size ≤ q) b := Nat.not_le.mpr hbl
  unfold f_L_case0 at h
  refine lv_aload_n hx hb dL_law_192 rfl (lv_at hl 1 rfl) ?_
  refine lv_aload_n hx hb dL_law_193 rfl (lv_at hl 0 rfl) ?_
  refine lv_iload hx hb dL_law_194 (lv_at hl 4 rfl) ?_
  refine lv_iconst (v := 1) hx hb dL_law_196 (by decide) ?_
  refine lv_iadd hx hb dL_law_197 ?_
  obtain ⟨g_198, h⟩ := g_guard h
  refine va_sld hx hb hX hbl hbA hI.2 g_198 dL_law_198 ?_
  refine lv_aload_n hx hb dL_law_199 rfl (lv_at hl 0 rfl) ?_
  refine lv_iload hx hb dL_law_200 (lv_at hl 4 rfl) ?_
  refine lv_iconst (v := 2) hx hb dL_law_202 (by decide) ?_
  refine lv_iadd hx hb dL_law_203 ?_
  obtain ⟨g_204, h⟩ := g_guard h
  refine va_sld hx hb hX hbl hbA hI.2 g_204 dL_law_204 ?_
  refine lv_aload_n hx hb dL_law_205 rfl (lv_at hl 0 rfl) ?_
  refine lv_iload hx hb dL_law_206 (lv_at hl 4 rfl) ?_
  refine lv_iconst (v := 3) hx hb dL_law_208 (by decide) ?_
  refine lv_iadd hx hb dL_law_209 ?_
  obtain ⟨g_210, h⟩ := g_guard h
  refine va_sld hx hb hX hbl hbA hI.2 g_210 dL_law_210 ?_
  refine lv_aload_n hx hb dL_law_211 rfl (lv_at hl 3 rfl) ?_
  obtain ⟨q_212, e_212, h⟩ := gBind_in h
  obtain ⟨g_212, h⟩ := g_guard h
  refine g_lcW (S := S) (σ' := q_212.2.2) (f' := o_L_setHeight q_212.1 q_212.2.1 S.2.2) (As := [.ref (a 0), .int (xs (i + 1).toNatClampNeg), .int (xs (i + 2).toNatClampNeg), .int (xs (i + 3).toNatClampNeg), .ref (a 65)]) (rest := []) F hI (c_L_setHeight l D a cI cJ (g_inj_sub (by decide) F.2.2.1) F.2.2.2.2.2.2.2 sa (xs (i + 1).toNatClampNeg) (xs (i + 2).toNatClampNeg) (xs (i + 3).toNatClampNeg) S.1 S.2.2 q_212 (Option.some.inj e_212) (Decidable.not_not.mp g_212)) kh_L_setHeight kn_L kd_L_setHeight kt_L_setHeight km_L_114 ⟨(Nat.le_of_ble_eq_true rfl), (Nat.le_of_ble_eq_true rfl), rfl, rfl⟩ hl.1 rfl (Nat.le_of_ble_eq_true rfl) ⟨(by show _ ≤ 601024; omega), (by show _ ≤ 7293000; omega)⟩ dL_law_212 (fun H locs hI => ?_)
  have hI : g_LS D a (lE a cI cZ cJ (q_212.2.2, S.2.1, o_L_setHeight q_212.1 q_212.2.1 S.2.2)) s H locs := hI
  refine lv_istore (lv' := [(5, .int (f_L_setHeight q_212.1)), (0, .ref b), (1, .ref (a 0)), (2, .ref (a 66)), (3, .ref (a 65)), (4, .int i)]) hx hb dL_law_215 hl (by decide) rfl (fun ls hl => ?_)
  refine lv_aload_n hx hb dL_law_217 rfl (lv_at hl 3 rfl) ?_
  refine lv_aload_n hx hb dL_law_218 rfl (lv_at hl 1 rfl) ?_
  refine lv_iload hx hb dL_law_219 (lv_at hl 5 rfl) ?_
  refine lv_iconst (v := 1) hx hb dL_law_221 (by decide) ?_
  refine lv_iadd hx hb dL_law_222 ?_
  obtain ⟨g_223, h⟩ := g_guard h
  refine va_sld hx hb hX hbl hbA hI.2 g_223 dL_law_223 ?_
  refine lv_aload_n hx hb dL_law_224 rfl (lv_at hl 1 rfl) ?_
  refine lv_iload hx hb dL_law_225 (lv_at hl 5 rfl) ?_
  refine lv_iconst (v := 2) hx hb dL_law_227 (by decide) ?_
  refine lv_iadd hx hb dL_law_228 ?_
  obtain ⟨g_229, h⟩ := g_guard h
  refine va_sld hx hb hX hbl hbA hI.2 g_229 dL_law_229 ?_
  refine lv_aload_n hx hb dL_law_230 rfl (lv_at hl 1 rfl) ?_
  refine lv_iload hx hb dL_law_231 (lv_at hl 5 rfl) ?_
  refine lv_iconst (v := 3) hx hb dL_law_233 (by decide) ?_
  refine lv_iadd hx hb dL_law_234 ?_
  obtain ⟨g_235, h⟩ := g_guard h
  refine va_sld hx hb hX hbl hbA hI.2 g_235 dL_law_235 ?_
  obtain ⟨q_236, e_236, h⟩ := gBind_in h
  refine g_lcM (S := (q_212.2.2, S.2.1, o_L_setHeight q_212.1 q_212.2.1 S.2.2)) (τ' := q_236.2) (As := [.int (xs (i + 1).toNatClampNeg), .int (xs (i + 2).toNatClampNeg), .int (xs (i + 3).toNatClampNeg)]) (rest := []) F hI (c_X10_setHeight l D (fun j => a (66 + j)) cI cZ (g_inj_m F.2.2.1) N S.2.1 (xs (i + 1).toNatClampNeg) (xs (i + 2).toNatClampNeg) (xs (i + 3).toNatClampNeg) q_236 e_236) kb_X10_setHeight ki_X10_setHeight ks_X10_setHeight km_L_117 ⟨(Nat.le_of_ble_eq_true rfl), (Nat.le_of_ble_eq_true rfl), rfl, rfl⟩ hl.1 rfl (Nat.le_of_ble_eq_true rfl) ⟨(by show _ ≤ 601024; omega), (by show _ ≤ 7293000; omega)⟩ dL_law_236 (fun H locs hI => ?_)
  have hI : g_LS D a (lE a cI cZ cJ (q_212.2.2, q_236.2, o_L_setHeight q_212.1 q_212.2.1 S.2.2)) s H locs := hI
  refine lv_istore (lv' := [(6, .int q_236.1), (5, .int (f_L_setHeight q_212.1)), (0, .ref b), (1, .ref (a 0)), (2, .ref (a 66)), (3, .ref (a 65)), (4, .int i)]) hx hb dL_law_239 hl (by decide) rfl (fun ls hl => ?_)
  refine lv_aload_n hx hb dL_law_241 rfl (lv_at hl 4 rfl) ?_
  refine g_lcM (S := (q_212.2.2, q_236.2, o_L_setHeight q_212.1 q_212.2.1 S.2.2)) (τ' := q_236.2) (As := []) (rest := []) F hI (c_X10_thrown l D (fun j => a (66 + j)) cI cZ (g_inj_m F.2.2.1) q_236.2) kb_X10_thrown ki_X10_thrown ks_X10_thrown km_L_118 ⟨(Nat.le_of_ble_eq_true rfl), (Nat.le_of_ble_eq_true rfl), rfl, rfl⟩ hl.1 rfl (Nat.le_of_ble_eq_true rfl) ⟨(by show _ ≤ 601024; omega), (by show _ ≤ 7293000; omega)⟩ dL_law_242 (fun H locs hI => ?_)
  have hI : g_LS D a (lE a cI cZ cJ (q_212.2.2, q_236.2, o_L_setHeight q_212.1 q_212.2.1 S.2.2)) s H locs := hI
  refine lv_iload hx hb dL_law_245 (lv_at hl 1 rfl) ?_
  refine lv_icmp_eq (tgt := 252) hx hb dL_law_247 (by decide) (fun c_247 => ?_) (fun c_247 => ?_)
  · have h := (if_pos c_247).symm.trans h
    refine lv_iload hx hb dL_law_252 (lv_at hl 1 rfl) ?_
    obtain ⟨j269, hj269, h⟩ := gJoin0_in h
    have J269 : ∀ (H : Heap) (locs : List Loc) (ls : Array Slot), j269  = some out → g_LS D a (lE a cI cZ cJ (q_212.2.2, q_236.2, o_L_setHeight q_212.1 q_212.2.1 S.2.2)) s H locs → lv_has ls 7 [(0, .ref b), (1, .ref (a 0)), (2, .ref (a 66)), (3, .ref (a 65)), (4, .int i)] → W p l e room_1 s m #[Value.ref b] below meth c H locs (K + 2) (SL + 12) Q (F0 m 269 ls []) := by
      intro  H locs ls h hI hl
      rw [hj269] at h
      refine lv_goto (tgt := 2060) hx hb dL_law_269 (by decide) ?_
      refine W.widen (k := K + 8) (n := SL + 48) (by omega) (by omega) ?_
      exact J2060 _ _ _ trivial h hI (lv_sub hl [0, 1, 2, 3, 4] rfl)
    refine lv_if_ne (tgt := 269) hx hb dL_law_254 (by decide) (fun c_254 => ?_) (fun c_254 => ?_)
    · have h := (if_neg c_254).symm.trans h
      exact J269 _ _ _ h hI (lv_sub hl [2, 3, 4, 5, 6] rfl)
    · have h := (if_pos c_254).symm.trans h
      refine lv_aload_n hx hb dL_law_257 rfl (lv_at hl 5 rfl) ?_
      refine lv_iconst (v := 0) hx hb dL_law_258 (by decide) ?_
      refine g_llald F hI dL_law_259 ?_
      refine lv_iload hx hb dL_law_260 (lv_at hl 0 rfl) ?_
      refine lv_i2l hx hb dL_law_262 rfl ?_
      refine W.lcmp hx hb dL_law_263 ?_
      refine lv_if_eq (tgt := 269) hx hb dL_law_264 (by decide) (fun c_264 => ?_) (fun c_264 => ?_)
      · have h := (if_pos c_264).symm.trans h
        exact J269 _ _ _ h hI (lv_sub hl [2, 3, 4, 5, 6] rfl)
      · have h := (if_neg c_264).symm.trans h
        refine lv_iconst (v := 0) hx hb dL_law_267 (by decide) ?_
        have h := Option.some.inj h
        subst h
        exact hq _ _ _ _ _ _ (by omega) (by omega) hI dL_law_268
  · have h := (if_neg c_247).symm.trans h
    refine lv_iconst (v := 0) hx hb dL_law_250 (by decide) ?_
    have h := Option.some.inj h
    subst h
    exact hq _ _ _ _ _ _ (by omega) (by omega) hI dL_law_251
theorem kd_L_hill : yL_hill.cls ≠ "java/lang/invoke/MethodHandle" ∧ yL_hill.cls ≠ "java/lang/invoke/VarHandle" ∧ (parseMethodDescriptor yL_hill.desc).map (fun d => d.parameters.length) = some 6 := by decide +kernel
def f_L_case1 (N L : Nat) (xs : Nat → Int32) (i : Int32) (S : lSt) (jn : lSt → Option Int32) : Option Int32 :=
  if i + 1 < 0 ∨ L ≤ (i + 1).toNatClampNeg then none else
  if i + 2 < 0 ∨ L ≤ (i + 2).toNatClampNeg then none else
  if i + 3 < 0 ∨ L ≤ (i + 3).toNatClampNeg then none else
  if i + 4 < 0 ∨ L ≤ (i + 4).toNatClampNeg then none else
  (f_X9_hill N S.1 (xs (i + 1).toNatClampNeg) (xs (i + 2).toNatClampNeg) (xs (i + 3).toNatClampNeg) (xs (i + 4).toNatClampNeg)).bind (fun (q_298 : Nat × Int32 × gSt) =>
  if ¬ (q_298.1 = 0 ∨ q_298.1 = 1 ∨ q_298.1 = 2) then none else
  if i + 1 < 0 ∨ L ≤ (i + 1).toNatClampNeg then none else
  if i + 2 < 0 ∨ L ≤ (i + 2).toNatClampNeg then none else
  if i + 3 < 0 ∨ L ≤ (i + 3).toNatClampNeg then none else
  if i + 4 < 0 ∨ L ≤ (i + 4).toNatClampNeg then none else
  (f_X10_hill N S.2.1 (xs (i + 1).toNatClampNeg) (xs (i + 2).toNatClampNeg) (xs (i + 3).toNatClampNeg) (xs (i + 4).toNatClampNeg)).bind (fun (q_328 : Int32 × gSt) =>
  if f_X10_thrown q_328.2 = f_L_hill q_298.1 then
    gJoin0 (
        jn (q_298.2.2, q_328.2, o_L_hill q_298.1 q_298.2.1 S.2.2)) (fun j361 =>
      if f_L_hill q_298.1 = 0 then
        if lg_cmp (o_L_hill q_298.1 q_298.2.1 S.2.2 0) q_328.1.toInt64 = 0 then
          j361
        else
          some 0
      else
        j361)
  else
    some 0))
set_option maxRecDepth 100000 in
set_option maxHeartbeats 8000000 in
theorem w_L_case1 {p : Program} {e : Env} {s : State} {m : MethodId} {below : List Frame} {meth : Method} {c : Code} {l : Launch} {b L : Nat} {xs : Nat → Int32} {D : va_G} {a : Nat → Nat} {cI cZ cJ : ClassId} {sa : Nat → Nat} {Q : State → Prop} {N : Nat} {i : Int32} {S : lSt} {jn : lSt → Option Int32} {out : Int32} {K SL : Nat} (F : g_LF p l m c s #[Value.ref b] D a cI cZ cJ sa) (hX : va_X b L xs s s.heap) (hbl : b < s.heap.size) (hK : K + 8 ≤ 601024) (hSL : SL + 48 ≤ 7293000)
    (hq : ∀ {S : lSt} (H : Heap) (locs : List Loc) (pc : Nat) (ls : Array Slot) (cl sl : Nat), cl ≤ 601024 → sl ≤ 7293000 → g_LS D a (lE a cI cZ cJ S) s H locs → decode cL_law pc = .ok (.ireturn, 1) → W p l e room_1 s m #[Value.ref b] below meth c H locs cl sl Q (F0 m pc ls [.int out]))
    (J2060 : ∀ {S : lSt} (H : Heap) (locs : List Loc) (ls : Array Slot), True → jn S = some out → g_LS D a (lE a cI cZ cJ S) s H locs → lv_has ls 7 [(0, .ref b), (1, .ref (a 0)), (2, .ref (a 66)), (3, .ref (a 65)), (4, .int i)] → W p l e room_1 s m #[Value.ref b] below meth c H locs (K + 8) (SL + 48) Q (F0 m 2060 ls []))
    (h : f_L_case1 N L xs i S jn = some out) {H : Heap} {locs : List Loc} {ls : Array Slot} (hI : g_LS D a (lE a cI cZ cJ S) s H locs) (hl : lv_has ls 7 [(0, .ref b), (1, .ref (a 0)), (2, .ref (a 66)), (3, .ref (a 65)), (4, .int i)]) : W p l e room_1 s m #[Value.ref b] below meth c H locs K SL Q (F0 m 272 ls []) := by
  have hx := F.1.1
  have hb := F.1.2.1
  have hbA : ¬ (fun q => s.heap.size ≤ q) b := Nat.not_le.mpr hbl
  unfold f_L_case1 at h
  refine lv_aload_n hx hb dL_law_272 rfl (lv_at hl 1 rfl) ?_
  refine lv_aload_n hx hb dL_law_273 rfl (lv_at hl 0 rfl) ?_
  refine lv_iload hx hb dL_law_274 (lv_at hl 4 rfl) ?_
  refine lv_iconst (v := 1) hx hb dL_law_276 (by decide) ?_
  refine lv_iadd hx hb dL_law_277 ?_
  obtain ⟨g_278, h⟩ := g_guard h
  refine va_sld hx hb hX hbl hbA hI.2 g_278 dL_law_278 ?_
  refine lv_aload_n hx hb dL_law_279 rfl (lv_at hl 0 rfl) ?_
  refine lv_iload hx hb dL_law_280 (lv_at hl 4 rfl) ?_
  refine lv_iconst (v := 2) hx hb dL_law_282 (by decide) ?_
  refine lv_iadd hx hb dL_law_283 ?_
  obtain ⟨g_284, h⟩ := g_guard h
  refine va_sld hx hb hX hbl hbA hI.2 g_284 dL_law_284 ?_
  refine lv_aload_n hx hb dL_law_285 rfl (lv_at hl 0 rfl) ?_
  refine lv_iload hx hb dL_law_286 (lv_at hl 4 rfl) ?_
  refine lv_iconst (v := 3) hx hb dL_law_288 (by decide) ?_
  refine lv_iadd hx hb dL_law_289 ?_
  obtain ⟨g_290, h⟩ := g_guard h
  refine va_sld hx hb hX hbl hbA hI.2 g_290 dL_law_290 ?_
  refine lv_aload_n hx hb dL_law_291 rfl (lv_at hl 0 rfl) ?_
  refine lv_iload hx hb dL_law_292 (lv_at hl 4 rfl) ?_
  refine lv_iconst (v := 4) hx hb dL_law_294 (by decide) ?_
  refine lv_iadd hx hb dL_law_295 ?_
  obtain ⟨g_296, h⟩ := g_guard h
  refine va_sld hx hb hX hbl hbA hI.2 g_296 dL_law_296 ?_
  refine lv_aload_n hx hb dL_law_297 rfl (lv_at hl 3 rfl) ?_
  obtain ⟨q_298, e_298, h⟩ := gBind_in h
  obtain ⟨g_298, h⟩ := g_guard h
  refine g_lcW (S := S) (σ' := q_298.2.2) (f' := o_L_hill q_298.1 q_298.2.1 S.2.2) (As := [.ref (a 0), .int (xs (i + 1).toNatClampNeg), .int (xs (i + 2).toNatClampNeg), .int (xs (i + 3).toNatClampNeg), .int (xs (i + 4).toNatClampNeg), .ref (a 65)]) (rest := []) F hI (c_L_hill l D a cI cJ (g_inj_sub (by decide) F.2.2.1) F.2.2.2.2.2.2.2 sa N (xs (i + 1).toNatClampNeg) (xs (i + 2).toNatClampNeg) (xs (i + 3).toNatClampNeg) (xs (i + 4).toNatClampNeg) S.1 S.2.2 q_298 e_298 (Decidable.not_not.mp g_298)) kh_L_hill kn_L kd_L_hill kt_L_hill km_L_122 ⟨(Nat.le_of_ble_eq_true rfl), (Nat.le_of_ble_eq_true rfl), rfl, rfl⟩ hl.1 rfl (Nat.le_of_ble_eq_true rfl) ⟨(by show _ ≤ 601024; omega), (by show _ ≤ 7293000; omega)⟩ dL_law_298 (fun H locs hI => ?_)
  have hI : g_LS D a (lE a cI cZ cJ (q_298.2.2, S.2.1, o_L_hill q_298.1 q_298.2.1 S.2.2)) s H locs := hI
  refine lv_istore (lv' := [(5, .int (f_L_hill q_298.1)), (0, .ref b), (1, .ref (a 0)), (2, .ref (a 66)), (3, .ref (a 65)), (4, .int i)]) hx hb dL_law_301 hl (by decide) rfl (fun ls hl => ?_)
  refine lv_aload_n hx hb dL_law_303 rfl (lv_at hl 3 rfl) ?_
  refine lv_aload_n hx hb dL_law_304 rfl (lv_at hl 1 rfl) ?_
  refine lv_iload hx hb dL_law_305 (lv_at hl 5 rfl) ?_
  refine lv_iconst (v := 1) hx hb dL_law_307 (by decide) ?_
  refine lv_iadd hx hb dL_law_308 ?_
  obtain ⟨g_309, h⟩ := g_guard h
  refine va_sld hx hb hX hbl hbA hI.2 g_309 dL_law_309 ?_
  refine lv_aload_n hx hb dL_law_310 rfl (lv_at hl 1 rfl) ?_
  refine lv_iload hx hb dL_law_311 (lv_at hl 5 rfl) ?_
  refine lv_iconst (v := 2) hx hb dL_law_313 (by decide) ?_
  refine lv_iadd hx hb dL_law_314 ?_
  obtain ⟨g_315, h⟩ := g_guard h
  refine va_sld hx hb hX hbl hbA hI.2 g_315 dL_law_315 ?_
  refine lv_aload_n hx hb dL_law_316 rfl (lv_at hl 1 rfl) ?_
  refine lv_iload hx hb dL_law_317 (lv_at hl 5 rfl) ?_
  refine lv_iconst (v := 3) hx hb dL_law_319 (by decide) ?_
  refine lv_iadd hx hb dL_law_320 ?_
  obtain ⟨g_321, h⟩ := g_guard h
  refine va_sld hx hb hX hbl hbA hI.2 g_321 dL_law_321 ?_
  refine lv_aload_n hx hb dL_law_322 rfl (lv_at hl 1 rfl) ?_
  refine lv_iload hx hb dL_law_323 (lv_at hl 5 rfl) ?_
  refine lv_iconst (v := 4) hx hb dL_law_325 (by decide) ?_
  refine lv_iadd hx hb dL_law_326 ?_
  obtain ⟨g_327, h⟩ := g_guard h
  refine va_sld hx hb hX hbl hbA hI.2 g_327 dL_law_327 ?_
  obtain ⟨q_328, e_328, h⟩ := gBind_in h
  refine g_lcM (S := (q_298.2.2, S.2.1, o_L_hill q_298.1 q_298.2.1 S.2.2)) (τ' := q_328.2) (As := [.int (xs (i + 1).toNatClampNeg), .int (xs (i + 2).toNatClampNeg), .int (xs (i + 3).toNatClampNeg), .int (xs (i + 4).toNatClampNeg)]) (rest := []) F hI (c_X10_hill l D (fun j => a (66 + j)) cI cZ (g_inj_m F.2.2.1) N S.2.1 (xs (i + 1).toNatClampNeg) (xs (i + 2).toNatClampNeg) (xs (i + 3).toNatClampNeg) (xs (i + 4).toNatClampNeg) q_328 e_328) kb_X10_hill ki_X10_hill ks_X10_hill km_L_125 ⟨(Nat.le_of_ble_eq_true rfl), (Nat.le_of_ble_eq_true rfl), rfl, rfl⟩ hl.1 rfl (Nat.le_of_ble_eq_true rfl) ⟨(by show _ ≤ 601024; omega), (by show _ ≤ 7293000; omega)⟩ dL_law_328 (fun H locs hI => ?_)
  have hI : g_LS D a (lE a cI cZ cJ (q_298.2.2, q_328.2, o_L_hill q_298.1 q_298.2.1 S.2.2)) s H locs := hI
  refine lv_istore (lv' := [(6, .int q_328.1), (5, .int (f_L_hill q_298.1)), (0, .ref b), (1, .ref (a 0)), (2, .ref (a 66)), (3, .ref (a 65)), (4, .int i)]) hx hb dL_law_331 hl (by decide) rfl (fun ls hl => ?_)
  refine lv_aload_n hx hb dL_law_333 rfl (lv_at hl 4 rfl) ?_
  refine g_lcM (S := (q_298.2.2, q_328.2, o_L_hill q_298.1 q_298.2.1 S.2.2)) (τ' := q_328.2) (As := []) (rest := []) F hI (c_X10_thrown l D (fun j => a (66 + j)) cI cZ (g_inj_m F.2.2.1) q_328.2) kb_X10_thrown ki_X10_thrown ks_X10_thrown km_L_118 ⟨(Nat.le_of_ble_eq_true rfl), (Nat.le_of_ble_eq_true rfl), rfl, rfl⟩ hl.1 rfl (Nat.le_of_ble_eq_true rfl) ⟨(by show _ ≤ 601024; omega), (by show _ ≤ 7293000; omega)⟩ dL_law_334 (fun H locs hI => ?_)
  have hI : g_LS D a (lE a cI cZ cJ (q_298.2.2, q_328.2, o_L_hill q_298.1 q_298.2.1 S.2.2)) s H locs := hI
  refine lv_iload hx hb dL_law_337 (lv_at hl 1 rfl) ?_
  refine lv_icmp_eq (tgt := 344) hx hb dL_law_339 (by decide) (fun c_339 => ?_) (fun c_339 => ?_)
  · have h := (if_pos c_339).symm.trans h
    refine lv_iload hx hb dL_law_344 (lv_at hl 1 rfl) ?_
    obtain ⟨j361, hj361, h⟩ := gJoin0_in h
    have J361 : ∀ (H : Heap) (locs : List Loc) (ls : Array Slot), j361  = some out → g_LS D a (lE a cI cZ cJ (q_298.2.2, q_328.2, o_L_hill q_298.1 q_298.2.1 S.2.2)) s H locs → lv_has ls 7 [(0, .ref b), (1, .ref (a 0)), (2, .ref (a 66)), (3, .ref (a 65)), (4, .int i)] → W p l e room_1 s m #[Value.ref b] below meth c H locs (K + 3) (SL + 18) Q (F0 m 361 ls []) := by
      intro  H locs ls h hI hl
      rw [hj361] at h
      refine lv_goto (tgt := 2060) hx hb dL_law_361 (by decide) ?_
      refine W.widen (k := K + 8) (n := SL + 48) (by omega) (by omega) ?_
      exact J2060 _ _ _ trivial h hI (lv_sub hl [0, 1, 2, 3, 4] rfl)
    refine lv_if_ne (tgt := 361) hx hb dL_law_346 (by decide) (fun c_346 => ?_) (fun c_346 => ?_)
    · have h := (if_neg c_346).symm.trans h
      exact J361 _ _ _ h hI (lv_sub hl [2, 3, 4, 5, 6] rfl)
    · have h := (if_pos c_346).symm.trans h
      refine lv_aload_n hx hb dL_law_349 rfl (lv_at hl 5 rfl) ?_
      refine lv_iconst (v := 0) hx hb dL_law_350 (by decide) ?_
      refine g_llald F hI dL_law_351 ?_
      refine lv_iload hx hb dL_law_352 (lv_at hl 0 rfl) ?_
      refine lv_i2l hx hb dL_law_354 rfl ?_
      refine W.lcmp hx hb dL_law_355 ?_
      refine lv_if_eq (tgt := 361) hx hb dL_law_356 (by decide) (fun c_356 => ?_) (fun c_356 => ?_)
      · have h := (if_pos c_356).symm.trans h
        exact J361 _ _ _ h hI (lv_sub hl [2, 3, 4, 5, 6] rfl)
      · have h := (if_neg c_356).symm.trans h
        refine lv_iconst (v := 0) hx hb dL_law_359 (by decide) ?_
        have h := Option.some.inj h
        subst h
        exact hq _ _ _ _ _ _ (by omega) (by omega) hI dL_law_360
  · have h := (if_neg c_339).symm.trans h
    refine lv_iconst (v := 0) hx hb dL_law_342 (by decide) ?_
    have h := Option.some.inj h
    subst h
    exact hq _ _ _ _ _ _ (by omega) (by omega) hI dL_law_343
theorem kd_L_setGround : yL_setGround.cls ≠ "java/lang/invoke/MethodHandle" ∧ yL_setGround.cls ≠ "java/lang/invoke/VarHandle" ∧ (parseMethodDescriptor yL_setGround.desc).map (fun d => d.parameters.length) = some 7 := by decide +kernel
def f_L_case2 (N L : Nat) (xs : Nat → Int32) (i : Int32) (S : lSt) (jn : lSt → Option Int32) : Option Int32 :=
  if i + 1 < 0 ∨ L ≤ (i + 1).toNatClampNeg then none else
  if i + 2 < 0 ∨ L ≤ (i + 2).toNatClampNeg then none else
  if i + 3 < 0 ∨ L ≤ (i + 3).toNatClampNeg then none else
  if i + 4 < 0 ∨ L ≤ (i + 4).toNatClampNeg then none else
  if i + 5 < 0 ∨ L ≤ (i + 5).toNatClampNeg then none else
  (f_X9_setGround N S.1 (xs (i + 1).toNatClampNeg) (xs (i + 2).toNatClampNeg) (xs (i + 3).toNatClampNeg) (xs (i + 4).toNatClampNeg) (xs (i + 5).toNatClampNeg)).bind (fun (q_396 : Nat × Int32 × gSt) =>
  if ¬ (q_396.1 = 0 ∨ q_396.1 = 1 ∨ q_396.1 = 2) then none else
  if i + 1 < 0 ∨ L ≤ (i + 1).toNatClampNeg then none else
  if i + 2 < 0 ∨ L ≤ (i + 2).toNatClampNeg then none else
  if i + 3 < 0 ∨ L ≤ (i + 3).toNatClampNeg then none else
  if i + 4 < 0 ∨ L ≤ (i + 4).toNatClampNeg then none else
  if i + 5 < 0 ∨ L ≤ (i + 5).toNatClampNeg then none else
  (f_X10_setGround N S.2.1 (xs (i + 1).toNatClampNeg) (xs (i + 2).toNatClampNeg) (xs (i + 3).toNatClampNeg) (xs (i + 4).toNatClampNeg) (xs (i + 5).toNatClampNeg)).bind (fun (q_432 : Int32 × gSt) =>
  if f_X10_thrown q_432.2 = f_L_setGround q_396.1 then
    gJoin0 (
        jn (q_396.2.2, q_432.2, o_L_setGround q_396.1 q_396.2.1 S.2.2)) (fun j465 =>
      if f_L_setGround q_396.1 = 0 then
        if lg_cmp (o_L_setGround q_396.1 q_396.2.1 S.2.2 0) q_432.1.toInt64 = 0 then
          j465
        else
          some 0
      else
        j465)
  else
    some 0))
set_option maxRecDepth 100000 in
set_option maxHeartbeats 8000000 in
theorem w_L_case2 {p : Program} {e : Env} {s : State} {m : MethodId} {below : List Frame} {meth : Method} {c : Code} {l : Launch} {b L : Nat} {xs : Nat → Int32} {D : va_G} {a : Nat → Nat} {cI cZ cJ : ClassId} {sa : Nat → Nat} {Q : State → Prop} {N : Nat} {i : Int32} {S : lSt} {jn : lSt → Option Int32} {out : Int32} {K SL : Nat} (F : g_LF p l m c s #[Value.ref b] D a cI cZ cJ sa) (hX : va_X b L xs s s.heap) (hbl : b < s.heap.size) (hK : K + 8 ≤ 601024) (hSL : SL + 48 ≤ 7293000)
    (hq : ∀ {S : lSt} (H : Heap) (locs : List Loc) (pc : Nat) (ls : Array Slot) (cl sl : Nat), cl ≤ 601024 → sl ≤ 7293000 → g_LS D a (lE a cI cZ cJ S) s H locs → decode cL_law pc = .ok (.ireturn, 1) → W p l e room_1 s m #[Value.ref b] below meth c H locs cl sl Q (F0 m pc ls [.int out]))
    (J2060 : ∀ {S : lSt} (H : Heap) (locs : List Loc) (ls : Array Slot), True → jn S = some out → g_LS D a (lE a cI cZ cJ S) s H locs → lv_has ls 7 [(0, .ref b), (1, .ref (a 0)), (2, .ref (a 66)), (3, .ref (a 65)), (4, .int i)] → W p l e room_1 s m #[Value.ref b] below meth c H locs (K + 8) (SL + 48) Q (F0 m 2060 ls []))
    (h : f_L_case2 N L xs i S jn = some out) {H : Heap} {locs : List Loc} {ls : Array Slot} (hI : g_LS D a (lE a cI cZ cJ S) s H locs) (hl : lv_has ls 7 [(0, .ref b), (1, .ref (a 0)), (2, .ref (a 66)), (3, .ref (a 65)), (4, .int i)]) : W p l e room_1 s m #[Value.ref b] below meth c H locs K SL Q (F0 m 364 ls []) := by
  have hx := F.1.1
  have hb := F.1.2.1
  have hbA : ¬ (fun q => s.heap.size ≤ q) b := Nat.not_le.mpr hbl
  unfold f_L_case2 at h
  refine lv_aload_n hx hb dL_law_364 rfl (lv_at hl 1 rfl) ?_
  refine lv_aload_n hx hb dL_law_365 rfl (lv_at hl 0 rfl) ?_
  refine lv_iload hx hb dL_law_366 (lv_at hl 4 rfl) ?_
  refine lv_iconst (v := 1) hx hb dL_law_368 (by decide) ?_
  refine lv_iadd hx hb dL_law_369 ?_
  obtain ⟨g_370, h⟩ := g_guard h
  refine va_sld hx hb hX hbl hbA hI.2 g_370 dL_law_370 ?_
  refine lv_aload_n hx hb dL_law_371 rfl (lv_at hl 0 rfl) ?_
  refine lv_iload hx hb dL_law_372 (lv_at hl 4 rfl) ?_
  refine lv_iconst (v := 2) hx hb dL_law_374 (by decide) ?_
  refine lv_iadd hx hb dL_law_375 ?_
  obtain ⟨g_376, h⟩ := g_guard h
  refine va_sld hx hb hX hbl hbA hI.2 g_376 dL_law_376 ?_
  refine lv_aload_n hx hb dL_law_377 rfl (lv_at hl 0 rfl) ?_
  refine lv_iload hx hb dL_law_378 (lv_at hl 4 rfl) ?_
  refine lv_iconst (v := 3) hx hb dL_law_380 (by decide) ?_
  refine lv_iadd hx hb dL_law_381 ?_
  obtain ⟨g_382, h⟩ := g_guard h
  refine va_sld hx hb hX hbl hbA hI.2 g_382 dL_law_382 ?_
  refine lv_aload_n hx hb dL_law_383 rfl (lv_at hl 0 rfl) ?_
  refine lv_iload hx hb dL_law_384 (lv_at hl 4 rfl) ?_
  refine lv_iconst (v := 4) hx hb dL_law_386 (by decide) ?_
  refine lv_iadd hx hb dL_law_387 ?_
  obtain ⟨g_388, h⟩ := g_guard h
  refine va_sld hx hb hX hbl hbA hI.2 g_388 dL_law_388 ?_
  refine lv_aload_n hx hb dL_law_389 rfl (lv_at hl 0 rfl) ?_
  refine lv_iload hx hb dL_law_390 (lv_at hl 4 rfl) ?_
  refine lv_iconst (v := 5) hx hb dL_law_392 (by decide) ?_
  refine lv_iadd hx hb dL_law_393 ?_
  obtain ⟨g_394, h⟩ := g_guard h
  refine va_sld hx hb hX hbl hbA hI.2 g_394 dL_law_394 ?_
  refine lv_aload_n hx hb dL_law_395 rfl (lv_at hl 3 rfl) ?_
  obtain ⟨q_396, e_396, h⟩ := gBind_in h
  obtain ⟨g_396, h⟩ := g_guard h
  refine g_lcW (S := S) (σ' := q_396.2.2) (f' := o_L_setGround q_396.1 q_396.2.1 S.2.2) (As := [.ref (a 0), .int (xs (i + 1).toNatClampNeg), .int (xs (i + 2).toNatClampNeg), .int (xs (i + 3).toNatClampNeg), .int (xs (i + 4).toNatClampNeg), .int (xs (i + 5).toNatClampNeg), .ref (a 65)]) (rest := []) F hI (c_L_setGround l D a cI cJ (g_inj_sub (by decide) F.2.2.1) F.2.2.2.2.2.2.2 sa N (xs (i + 1).toNatClampNeg) (xs (i + 2).toNatClampNeg) (xs (i + 3).toNatClampNeg) (xs (i + 4).toNatClampNeg) (xs (i + 5).toNatClampNeg) S.1 S.2.2 q_396 e_396 (Decidable.not_not.mp g_396)) kh_L_setGround kn_L kd_L_setGround kt_L_setGround km_L_126 ⟨(Nat.le_of_ble_eq_true rfl), (Nat.le_of_ble_eq_true rfl), rfl, rfl⟩ hl.1 rfl (Nat.le_of_ble_eq_true rfl) ⟨(by show _ ≤ 601024; omega), (by show _ ≤ 7293000; omega)⟩ dL_law_396 (fun H locs hI => ?_)
  have hI : g_LS D a (lE a cI cZ cJ (q_396.2.2, S.2.1, o_L_setGround q_396.1 q_396.2.1 S.2.2)) s H locs := hI
  refine lv_istore (lv' := [(5, .int (f_L_setGround q_396.1)), (0, .ref b), (1, .ref (a 0)), (2, .ref (a 66)), (3, .ref (a 65)), (4, .int i)]) hx hb dL_law_399 hl (by decide) rfl (fun ls hl => ?_)
  refine lv_aload_n hx hb dL_law_401 rfl (lv_at hl 3 rfl) ?_
  refine lv_aload_n hx hb dL_law_402 rfl (lv_at hl 1 rfl) ?_
  refine lv_iload hx hb dL_law_403 (lv_at hl 5 rfl) ?_
  refine lv_iconst (v := 1) hx hb dL_law_405 (by decide) ?_
  refine lv_iadd hx hb dL_law_406 ?_
  obtain ⟨g_407, h⟩ := g_guard h
  refine va_sld hx hb hX hbl hbA hI.2 g_407 dL_law_407 ?_
  refine lv_aload_n hx hb dL_law_408 rfl (lv_at hl 1 rfl) ?_
  refine lv_iload hx hb dL_law_409 (lv_at hl 5 rfl) ?_
  refine lv_iconst (v := 2) hx hb dL_law_411 (by decide) ?_
  refine lv_iadd hx hb dL_law_412 ?_
  obtain ⟨g_413, h⟩ := g_guard h
  refine va_sld hx hb hX hbl hbA hI.2 g_413 dL_law_413 ?_
  refine lv_aload_n hx hb dL_law_414 rfl (lv_at hl 1 rfl) ?_
  refine lv_iload hx hb dL_law_415 (lv_at hl 5 rfl) ?_
  refine lv_iconst (v := 3) hx hb dL_law_417 (by decide) ?_
  refine lv_iadd hx hb dL_law_418 ?_
  obtain ⟨g_419, h⟩ := g_guard h
  refine va_sld hx hb hX hbl hbA hI.2 g_419 dL_law_419 ?_
  refine lv_aload_n hx hb dL_law_420 rfl (lv_at hl 1 rfl) ?_
  refine lv_iload hx hb dL_law_421 (lv_at hl 5 rfl) ?_
  refine lv_iconst (v := 4) hx hb dL_law_423 (by decide) ?_
  refine lv_iadd hx hb dL_law_424 ?_
  obtain ⟨g_425, h⟩ := g_guard h
  refine va_sld hx hb hX hbl hbA hI.2 g_425 dL_law_425 ?_
  refine lv_aload_n hx hb dL_law_426 rfl (lv_at hl 1 rfl) ?_
  refine lv_iload hx hb dL_law_427 (lv_at hl 5 rfl) ?_
  refine lv_iconst (v := 5) hx hb dL_law_429 (by decide) ?_
  refine lv_iadd hx hb dL_law_430 ?_
  obtain ⟨g_431, h⟩ := g_guard h
  refine va_sld hx hb hX hbl hbA hI.2 g_431 dL_law_431 ?_
  obtain ⟨q_432, e_432, h⟩ := gBind_in h
  refine g_lcM (S := (q_396.2.2, S.2.1, o_L_setGround q_396.1 q_396.2.1 S.2.2)) (τ' := q_432.2) (As := [.int (xs (i + 1).toNatClampNeg), .int (xs (i + 2).toNatClampNeg), .int (xs (i + 3).toNatClampNeg), .int (xs (i + 4).toNatClampNeg), .int (xs (i + 5).toNatClampNeg)]) (rest := []) F hI (c_X10_setGround l D (fun j => a (66 + j)) cI cZ (g_inj_m F.2.2.1) N S.2.1 (xs (i + 1).toNatClampNeg) (xs (i + 2).toNatClampNeg) (xs (i + 3).toNatClampNeg) (xs (i + 4).toNatClampNeg) (xs (i + 5).toNatClampNeg) q_432 e_432) kb_X10_setGround ki_X10_setGround ks_X10_setGround km_L_129 ⟨(Nat.le_of_ble_eq_true rfl), (Nat.le_of_ble_eq_true rfl), rfl, rfl⟩ hl.1 rfl (Nat.le_of_ble_eq_true rfl) ⟨(by show _ ≤ 601024; omega), (by show _ ≤ 7293000; omega)⟩ dL_law_432 (fun H locs hI => ?_)
  have hI : g_LS D a (lE a cI cZ cJ (q_396.2.2, q_432.2, o_L_setGround q_396.1 q_396.2.1 S.2.2)) s H locs := hI
  refine lv_istore (lv' := [(6, .int q_432.1), (5, .int (f_L_setGround q_396.1)), (0, .ref b), (1, .ref (a 0)), (2, .ref (a 66)), (3, .ref (a 65)), (4, .int i)]) hx hb dL_law_435 hl (by decide) rfl (fun ls hl => ?_)
  refine lv_aload_n hx hb dL_law_437 rfl (lv_at hl 4 rfl) ?_
  refine g_lcM (S := (q_396.2.2, q_432.2, o_L_setGround q_396.1 q_396.2.1 S.2.2)) (τ' := q_432.2) (As := []) (rest := []) F hI (c_X10_thrown l D (fun j => a (66 + j)) cI cZ (g_inj_m F.2.2.1) q_432.2) kb_X10_thrown ki_X10_thrown ks_X10_thrown km_L_118 ⟨(Nat.le_of_ble_eq_true rfl), (Nat.le_of_ble_eq_true rfl), rfl, rfl⟩ hl.1 rfl (Nat.le_of_ble_eq_true rfl) ⟨(by show _ ≤ 601024; omega), (by show _ ≤ 7293000; omega)⟩ dL_law_438 (fun H locs hI => ?_)
  have hI : g_LS D a (lE a cI cZ cJ (q_396.2.2, q_432.2, o_L_setGround q_396.1 q_396.2.1 S.2.2)) s H locs := hI
  refine lv_iload hx hb dL_law_441 (lv_at hl 1 rfl) ?_
  refine lv_icmp_eq (tgt := 448) hx hb dL_law_443 (by decide) (fun c_443 => ?_) (fun c_443 => ?_)
  · have h := (if_pos c_443).symm.trans h
    refine lv_iload hx hb dL_law_448 (lv_at hl 1 rfl) ?_
    obtain ⟨j465, hj465, h⟩ := gJoin0_in h
    have J465 : ∀ (H : Heap) (locs : List Loc) (ls : Array Slot), j465  = some out → g_LS D a (lE a cI cZ cJ (q_396.2.2, q_432.2, o_L_setGround q_396.1 q_396.2.1 S.2.2)) s H locs → lv_has ls 7 [(0, .ref b), (1, .ref (a 0)), (2, .ref (a 66)), (3, .ref (a 65)), (4, .int i)] → W p l e room_1 s m #[Value.ref b] below meth c H locs (K + 5) (SL + 30) Q (F0 m 465 ls []) := by
      intro  H locs ls h hI hl
      rw [hj465] at h
      refine lv_goto (tgt := 2060) hx hb dL_law_465 (by decide) ?_
      refine W.widen (k := K + 8) (n := SL + 48) (by omega) (by omega) ?_
      exact J2060 _ _ _ trivial h hI (lv_sub hl [0, 1, 2, 3, 4] rfl)
    refine lv_if_ne (tgt := 465) hx hb dL_law_450 (by decide) (fun c_450 => ?_) (fun c_450 => ?_)
    · have h := (if_neg c_450).symm.trans h
      exact J465 _ _ _ h hI (lv_sub hl [2, 3, 4, 5, 6] rfl)
    · have h := (if_pos c_450).symm.trans h
      refine lv_aload_n hx hb dL_law_453 rfl (lv_at hl 5 rfl) ?_
      refine lv_iconst (v := 0) hx hb dL_law_454 (by decide) ?_
      refine g_llald F hI dL_law_455 ?_
      refine lv_iload hx hb dL_law_456 (lv_at hl 0 rfl) ?_
      refine lv_i2l hx hb dL_law_458 rfl ?_
      refine W.lcmp hx hb dL_law_459 ?_
      refine lv_if_eq (tgt := 465) hx hb dL_law_460 (by decide) (fun c_460 => ?_) (fun c_460 => ?_)
      · have h := (if_pos c_460).symm.trans h
        exact J465 _ _ _ h hI (lv_sub hl [2, 3, 4, 5, 6] rfl)
      · have h := (if_neg c_460).symm.trans h
        refine lv_iconst (v := 0) hx hb dL_law_463 (by decide) ?_
        have h := Option.some.inj h
        subst h
        exact hq _ _ _ _ _ _ (by omega) (by omega) hI dL_law_464
  · have h := (if_neg c_443).symm.trans h
    refine lv_iconst (v := 0) hx hb dL_law_446 (by decide) ?_
    have h := Option.some.inj h
    subst h
    exact hq _ _ _ _ _ _ (by omega) (by omega) hI dL_law_447
theorem kd_L_control : yL_control.cls ≠ "java/lang/invoke/MethodHandle" ∧ yL_control.cls ≠ "java/lang/invoke/VarHandle" ∧ (parseMethodDescriptor yL_control.desc).map (fun d => d.parameters.length) = some 4 := by decide +kernel
def f_L_case3 (N L : Nat) (xs : Nat → Int32) (i : Int32) (S : lSt) (jn : lSt → Option Int32) : Option Int32 :=
  if i + 1 < 0 ∨ L ≤ (i + 1).toNatClampNeg then none else
  if i + 2 < 0 ∨ L ≤ (i + 2).toNatClampNeg then none else
  (f_X9_control N S.1 (xs (i + 1).toNatClampNeg) (xs (i + 2).toNatClampNeg)).bind (fun (q_482 : Nat × Int32 × gSt) =>
  if ¬ (q_482.1 = 0 ∨ q_482.1 = 1 ∨ q_482.1 = 3) then none else
  if i + 1 < 0 ∨ L ≤ (i + 1).toNatClampNeg then none else
  if i + 2 < 0 ∨ L ≤ (i + 2).toNatClampNeg then none else
  (f_X10_control N S.2.1 (xs (i + 1).toNatClampNeg) (xs (i + 2).toNatClampNeg)).bind (fun (q_500 : Int32 × gSt) =>
  if f_X10_thrown q_500.2 = f_L_control q_482.1 then
    gJoin0 (
        jn (q_482.2.2, q_500.2, o_L_control q_482.1 q_482.2.1 S.2.2)) (fun j533 =>
      if f_L_control q_482.1 = 0 then
        if lg_cmp (o_L_control q_482.1 q_482.2.1 S.2.2 0) q_500.1.toInt64 = 0 then
          j533
        else
          some 0
      else
        j533)
  else
    some 0))
set_option maxRecDepth 100000 in
set_option maxHeartbeats 8000000 in
theorem w_L_case3 {p : Program} {e : Env} {s : State} {m : MethodId} {below : List Frame} {meth : Method} {c : Code} {l : Launch} {b L : Nat} {xs : Nat → Int32} {D : va_G} {a : Nat → Nat} {cI cZ cJ : ClassId} {sa : Nat → Nat} {Q : State → Prop} {N : Nat} {i : Int32} {S : lSt} {jn : lSt → Option Int32} {out : Int32} {K SL : Nat} (F : g_LF p l m c s #[Value.ref b] D a cI cZ cJ sa) (hX : va_X b L xs s s.heap) (hbl : b < s.heap.size) (hK : K + 8 ≤ 601024) (hSL : SL + 48 ≤ 7293000)
    (hq : ∀ {S : lSt} (H : Heap) (locs : List Loc) (pc : Nat) (ls : Array Slot) (cl sl : Nat), cl ≤ 601024 → sl ≤ 7293000 → g_LS D a (lE a cI cZ cJ S) s H locs → decode cL_law pc = .ok (.ireturn, 1) → W p l e room_1 s m #[Value.ref b] below meth c H locs cl sl Q (F0 m pc ls [.int out]))
    (J2060 : ∀ {S : lSt} (H : Heap) (locs : List Loc) (ls : Array Slot), True → jn S = some out → g_LS D a (lE a cI cZ cJ S) s H locs → lv_has ls 7 [(0, .ref b), (1, .ref (a 0)), (2, .ref (a 66)), (3, .ref (a 65)), (4, .int i)] → W p l e room_1 s m #[Value.ref b] below meth c H locs (K + 8) (SL + 48) Q (F0 m 2060 ls []))
    (h : f_L_case3 N L xs i S jn = some out) {H : Heap} {locs : List Loc} {ls : Array Slot} (hI : g_LS D a (lE a cI cZ cJ S) s H locs) (hl : lv_has ls 7 [(0, .ref b), (1, .ref (a 0)), (2, .ref (a 66)), (3, .ref (a 65)), (4, .int i)]) : W p l e room_1 s m #[Value.ref b] below meth c H locs K SL Q (F0 m 468 ls []) := by
  have hx := F.1.1
  have hb := F.1.2.1
  have hbA : ¬ (fun q => s.heap.size ≤ q) b := Nat.not_le.mpr hbl
  unfold f_L_case3 at h
  refine lv_aload_n hx hb dL_law_468 rfl (lv_at hl 1 rfl) ?_
  refine lv_aload_n hx hb dL_law_469 rfl (lv_at hl 0 rfl) ?_
  refine lv_iload hx hb dL_law_470 (lv_at hl 4 rfl) ?_
  refine lv_iconst (v := 1) hx hb dL_law_472 (by decide) ?_
  refine lv_iadd hx hb dL_law_473 ?_
  obtain ⟨g_474, h⟩ := g_guard h
  refine va_sld hx hb hX hbl hbA hI.2 g_474 dL_law_474 ?_
  refine lv_aload_n hx hb dL_law_475 rfl (lv_at hl 0 rfl) ?_
  refine lv_iload hx hb dL_law_476 (lv_at hl 4 rfl) ?_
  refine lv_iconst (v := 2) hx hb dL_law_478 (by decide) ?_
  refine lv_iadd hx hb dL_law_479 ?_
  obtain ⟨g_480, h⟩ := g_guard h
  refine va_sld hx hb hX hbl hbA hI.2 g_480 dL_law_480 ?_
  refine lv_aload_n hx hb dL_law_481 rfl (lv_at hl 3 rfl) ?_
  obtain ⟨q_482, e_482, h⟩ := gBind_in h
  obtain ⟨g_482, h⟩ := g_guard h
  refine g_lcW (S := S) (σ' := q_482.2.2) (f' := o_L_control q_482.1 q_482.2.1 S.2.2) (As := [.ref (a 0), .int (xs (i + 1).toNatClampNeg), .int (xs (i + 2).toNatClampNeg), .ref (a 65)]) (rest := []) F hI (c_L_control l D a cI cJ (g_inj_sub (by decide) F.2.2.1) F.2.2.2.2.2.2.2 sa N (xs (i + 1).toNatClampNeg) (xs (i + 2).toNatClampNeg) S.1 S.2.2 q_482 e_482 (Decidable.not_not.mp g_482)) kh_L_control kn_L kd_L_control kt_L_control km_L_130 ⟨(Nat.le_of_ble_eq_true rfl), (Nat.le_of_ble_eq_true rfl), rfl, rfl⟩ hl.1 rfl (Nat.le_of_ble_eq_true rfl) ⟨(by show _ ≤ 601024; omega), (by show _ ≤ 7293000; omega)⟩ dL_law_482 (fun H locs hI => ?_)
  have hI : g_LS D a (lE a cI cZ cJ (q_482.2.2, S.2.1, o_L_control q_482.1 q_482.2.1 S.2.2)) s H locs := hI
  refine lv_istore (lv' := [(5, .int (f_L_control q_482.1)), (0, .ref b), (1, .ref (a 0)), (2, .ref (a 66)), (3, .ref (a 65)), (4, .int i)]) hx hb dL_law_485 hl (by decide) rfl (fun ls hl => ?_)
  refine lv_aload_n hx hb dL_law_487 rfl (lv_at hl 3 rfl) ?_
  refine lv_aload_n hx hb dL_law_488 rfl (lv_at hl 1 rfl) ?_
  refine lv_iload hx hb dL_law_489 (lv_at hl 5 rfl) ?_
  refine lv_iconst (v := 1) hx hb dL_law_491 (by decide) ?_
  refine lv_iadd hx hb dL_law_492 ?_
  obtain ⟨g_493, h⟩ := g_guard h
  refine va_sld hx hb hX hbl hbA hI.2 g_493 dL_law_493 ?_
  refine lv_aload_n hx hb dL_law_494 rfl (lv_at hl 1 rfl) ?_
  refine lv_iload hx hb dL_law_495 (lv_at hl 5 rfl) ?_
  refine lv_iconst (v := 2) hx hb dL_law_497 (by decide) ?_
  refine lv_iadd hx hb dL_law_498 ?_
  obtain ⟨g_499, h⟩ := g_guard h
  refine va_sld hx hb hX hbl hbA hI.2 g_499 dL_law_499 ?_
  obtain ⟨q_500, e_500, h⟩ := gBind_in h
  refine g_lcM (S := (q_482.2.2, S.2.1, o_L_control q_482.1 q_482.2.1 S.2.2)) (τ' := q_500.2) (As := [.int (xs (i + 1).toNatClampNeg), .int (xs (i + 2).toNatClampNeg)]) (rest := []) F hI (c_X10_control l D (fun j => a (66 + j)) cI cZ (g_inj_m F.2.2.1) N S.2.1 (xs (i + 1).toNatClampNeg) (xs (i + 2).toNatClampNeg) q_500 e_500) kb_X10_control ki_X10_control ks_X10_control km_L_133 ⟨(Nat.le_of_ble_eq_true rfl), (Nat.le_of_ble_eq_true rfl), rfl, rfl⟩ hl.1 rfl (Nat.le_of_ble_eq_true rfl) ⟨(by show _ ≤ 601024; omega), (by show _ ≤ 7293000; omega)⟩ dL_law_500 (fun H locs hI => ?_)
  have hI : g_LS D a (lE a cI cZ cJ (q_482.2.2, q_500.2, o_L_control q_482.1 q_482.2.1 S.2.2)) s H locs := hI
  refine lv_istore (lv' := [(6, .int q_500.1), (5, .int (f_L_control q_482.1)), (0, .ref b), (1, .ref (a 0)), (2, .ref (a 66)), (3, .ref (a 65)), (4, .int i)]) hx hb dL_law_503 hl (by decide) rfl (fun ls hl => ?_)
  refine lv_aload_n hx hb dL_law_505 rfl (lv_at hl 4 rfl) ?_
  refine g_lcM (S := (q_482.2.2, q_500.2, o_L_control q_482.1 q_482.2.1 S.2.2)) (τ' := q_500.2) (As := []) (rest := []) F hI (c_X10_thrown l D (fun j => a (66 + j)) cI cZ (g_inj_m F.2.2.1) q_500.2) kb_X10_thrown ki_X10_thrown ks_X10_thrown km_L_118 ⟨(Nat.le_of_ble_eq_true rfl), (Nat.le_of_ble_eq_true rfl), rfl, rfl⟩ hl.1 rfl (Nat.le_of_ble_eq_true rfl) ⟨(by show _ ≤ 601024; omega), (by show _ ≤ 7293000; omega)⟩ dL_law_506 (fun H locs hI => ?_)
  have hI : g_LS D a (lE a cI cZ cJ (q_482.2.2, q_500.2, o_L_control q_482.1 q_482.2.1 S.2.2)) s H locs := hI
  refine lv_iload hx hb dL_law_509 (lv_at hl 1 rfl) ?_
  refine lv_icmp_eq (tgt := 516) hx hb dL_law_511 (by decide) (fun c_511 => ?_) (fun c_511 => ?_)
  · have h := (if_pos c_511).symm.trans h
    refine lv_iload hx hb dL_law_516 (lv_at hl 1 rfl) ?_
    obtain ⟨j533, hj533, h⟩ := gJoin0_in h
    have J533 : ∀ (H : Heap) (locs : List Loc) (ls : Array Slot), j533  = some out → g_LS D a (lE a cI cZ cJ (q_482.2.2, q_500.2, o_L_control q_482.1 q_482.2.1 S.2.2)) s H locs → lv_has ls 7 [(0, .ref b), (1, .ref (a 0)), (2, .ref (a 66)), (3, .ref (a 65)), (4, .int i)] → W p l e room_1 s m #[Value.ref b] below meth c H locs (K + 3) (SL + 18) Q (F0 m 533 ls []) := by
      intro  H locs ls h hI hl
      rw [hj533] at h
      refine lv_goto (tgt := 2060) hx hb dL_law_533 (by decide) ?_
      refine W.widen (k := K + 8) (n := SL + 48) (by omega) (by omega) ?_
      exact J2060 _ _ _ trivial h hI (lv_sub hl [0, 1, 2, 3, 4] rfl)
    refine lv_if_ne (tgt := 533) hx hb dL_law_518 (by decide) (fun c_518 => ?_) (fun c_518 => ?_)
    · have h := (if_neg c_518).symm.trans h
      exact J533 _ _ _ h hI (lv_sub hl [2, 3, 4, 5, 6] rfl)
    · have h := (if_pos c_518).symm.trans h
      refine lv_aload_n hx hb dL_law_521 rfl (lv_at hl 5 rfl) ?_
      refine lv_iconst (v := 0) hx hb dL_law_522 (by decide) ?_
      refine g_llald F hI dL_law_523 ?_
      refine lv_iload hx hb dL_law_524 (lv_at hl 0 rfl) ?_
      refine lv_i2l hx hb dL_law_526 rfl ?_
      refine W.lcmp hx hb dL_law_527 ?_
      refine lv_if_eq (tgt := 533) hx hb dL_law_528 (by decide) (fun c_528 => ?_) (fun c_528 => ?_)
      · have h := (if_pos c_528).symm.trans h
        exact J533 _ _ _ h hI (lv_sub hl [2, 3, 4, 5, 6] rfl)
      · have h := (if_neg c_528).symm.trans h
        refine lv_iconst (v := 0) hx hb dL_law_531 (by decide) ?_
        have h := Option.some.inj h
        subst h
        exact hq _ _ _ _ _ _ (by omega) (by omega) hI dL_law_532
  · have h := (if_neg c_511).symm.trans h
    refine lv_iconst (v := 0) hx hb dL_law_514 (by decide) ?_
    have h := Option.some.inj h
    subst h
    exact hq _ _ _ _ _ _ (by omega) (by omega) hI dL_law_515
theorem kd_L_visit : yL_visit.cls ≠ "java/lang/invoke/MethodHandle" ∧ yL_visit.cls ≠ "java/lang/invoke/VarHandle" ∧ (parseMethodDescriptor yL_visit.desc).map (fun d => d.parameters.length) = some 4 := by decide +kernel
def f_L_case4 (N L : Nat) (xs : Nat → Int32) (i : Int32) (S : lSt) (jn : lSt → Option Int32) : Option Int32 :=
  if i + 1 < 0 ∨ L ≤ (i + 1).toNatClampNeg then none else
  if i + 2 < 0 ∨ L ≤ (i + 2).toNatClampNeg then none else
  (f_X9_visit N S.1 (xs (i + 1).toNatClampNeg) (xs (i + 2).toNatClampNeg)).bind (fun (q_550 : Nat × Int32 × gSt) =>
  if ¬ (q_550.1 = 0 ∨ q_550.1 = 1 ∨ q_550.1 = 3) then none else
  if i + 1 < 0 ∨ L ≤ (i + 1).toNatClampNeg then none else
  if i + 2 < 0 ∨ L ≤ (i + 2).toNatClampNeg then none else
  (f_X10_visit N S.2.1 (xs (i + 1).toNatClampNeg) (xs (i + 2).toNatClampNeg)).bind (fun (q_568 : Int32 × gSt) =>
  if f_X10_thrown q_568.2 = f_L_visit q_550.1 then
    gJoin0 (
        jn (q_550.2.2, q_568.2, o_L_visit q_550.1 q_550.2.1 S.2.2)) (fun j601 =>
      if f_L_visit q_550.1 = 0 then
        if lg_cmp (o_L_visit q_550.1 q_550.2.1 S.2.2 0) q_568.1.toInt64 = 0 then
          j601
        else
          some 0
      else
        j601)
  else
    some 0))
set_option maxRecDepth 100000 in
set_option maxHeartbeats 8000000 in
theorem w_L_case4 {p : Program} {e : Env} {s : State} {m : MethodId} {below : List Frame} {meth : Method} {c : Code} {l : Launch} {b L : Nat} {xs : Nat → Int32} {D : va_G} {a : Nat → Nat} {cI cZ cJ : ClassId} {sa : Nat → Nat} {Q : State → Prop} {N : Nat} {i : Int32} {S : lSt} {jn : lSt → Option Int32} {out : Int32} {K SL : Nat} (F : g_LF p l m c s #[Value.ref b] D a cI cZ cJ sa) (hX : va_X b L xs s s.heap) (hbl : b < s.heap.size) (hK : K + 8 ≤ 601024) (hSL : SL + 48 ≤ 7293000)
    (hq : ∀ {S : lSt} (H : Heap) (locs : List Loc) (pc : Nat) (ls : Array Slot) (cl sl : Nat), cl ≤ 601024 → sl ≤ 7293000 → g_LS D a (lE a cI cZ cJ S) s H locs → decode cL_law pc = .ok (.ireturn, 1) → W p l e room_1 s m #[Value.ref b] below meth c H locs cl sl Q (F0 m pc ls [.int out]))
    (J2060 : ∀ {S : lSt} (H : Heap) (locs : List Loc) (ls : Array Slot), True → jn S = some out → g_LS D a (lE a cI cZ cJ S) s H locs → lv_has ls 7 [(0, .ref b), (1, .ref (a 0)), (2, .ref (a 66)), (3, .ref (a 65)), (4, .int i)] → W p l e room_1 s m #[Value.ref b] below meth c H locs (K + 8) (SL + 48) Q (F0 m 2060 ls []))
    (h : f_L_case4 N L xs i S jn = some out) {H : Heap} {locs : List Loc} {ls : Array Slot} (hI : g_LS D a (lE a cI cZ cJ S) s H locs) (hl : lv_has ls 7 [(0, .ref b), (1, .ref (a 0)), (2, .ref (a 66)), (3, .ref (a 65)), (4, .int i)]) : W p l e room_1 s m #[Value.ref b] below meth c H locs K SL Q (F0 m 536 ls []) := by
  have hx := F.1.1
  have hb := F.1.2.1
  have hbA : ¬ (fun q => s.heap.size ≤ q) b := Nat.not_le.mpr hbl
  unfold f_L_case4 at h
  refine lv_aload_n hx hb dL_law_536 rfl (lv_at hl 1 rfl) ?_
  refine lv_aload_n hx hb dL_law_537 rfl (lv_at hl 0 rfl) ?_
  refine lv_iload hx hb dL_law_538 (lv_at hl 4 rfl) ?_
  refine lv_iconst (v := 1) hx hb dL_law_540 (by decide) ?_
  refine lv_iadd hx hb dL_law_541 ?_
  obtain ⟨g_542, h⟩ := g_guard h
  refine va_sld hx hb hX hbl hbA hI.2 g_542 dL_law_542 ?_
  refine lv_aload_n hx hb dL_law_543 rfl (lv_at hl 0 rfl) ?_
  refine lv_iload hx hb dL_law_544 (lv_at hl 4 rfl) ?_
  refine lv_iconst (v := 2) hx hb dL_law_546 (by decide) ?_
  refine lv_iadd hx hb dL_law_547 ?_
  obtain ⟨g_548, h⟩ := g_guard h
  refine va_sld hx hb hX hbl hbA hI.2 g_548 dL_law_548 ?_
  refine lv_aload_n hx hb dL_law_549 rfl (lv_at hl 3 rfl) ?_
  obtain ⟨q_550, e_550, h⟩ := gBind_in h
  obtain ⟨g_550, h⟩ := g_guard h
  refine g_lcW (S := S) (σ' := q_550.2.2) (f' := o_L_visit q_550.1 q_550.2.1 S.2.2) (As := [.ref (a 0), .int (xs (i + 1).toNatClampNeg), .int (xs (i + 2).toNatClampNeg), .ref (a 65)]) (rest := []) F hI (c_L_visit l D a cI cJ (g_inj_sub (by decide) F.2.2.1) F.2.2.2.2.2.2.2 sa N (xs (i + 1).toNatClampNeg) (xs (i + 2).toNatClampNeg) S.1 S.2.2 q_550 e_550 (Decidable.not_not.mp g_550)) kh_L_visit kn_L kd_L_visit kt_L_visit km_L_134 ⟨(Nat.le_of_ble_eq_true rfl), (Nat.le_of_ble_eq_true rfl), rfl, rfl⟩ hl.1 rfl (Nat.le_of_ble_eq_true rfl) ⟨(by show _ ≤ 601024; omega), (by show _ ≤ 7293000; omega)⟩ dL_law_550 (fun H locs hI => ?_)
  have hI : g_LS D a (lE a cI cZ cJ (q_550.2.2, S.2.1, o_L_visit q_550.1 q_550.2.1 S.2.2)) s H locs := hI
  refine lv_istore (lv' := [(5, .int (f_L_visit q_550.1)), (0, .ref b), (1, .ref (a 0)), (2, .ref (a 66)), (3, .ref (a 65)), (4, .int i)]) hx hb dL_law_553 hl (by decide) rfl (fun ls hl => ?_)
  refine lv_aload_n hx hb dL_law_555 rfl (lv_at hl 3 rfl) ?_
  refine lv_aload_n hx hb dL_law_556 rfl (lv_at hl 1 rfl) ?_
  refine lv_iload hx hb dL_law_557 (lv_at hl 5 rfl) ?_
  refine lv_iconst (v := 1) hx hb dL_law_559 (by decide) ?_
  refine lv_iadd hx hb dL_law_560 ?_
  obtain ⟨g_561, h⟩ := g_guard h
  refine va_sld hx hb hX hbl hbA hI.2 g_561 dL_law_561 ?_
  refine lv_aload_n hx hb dL_law_562 rfl (lv_at hl 1 rfl) ?_
  refine lv_iload hx hb dL_law_563 (lv_at hl 5 rfl) ?_
  refine lv_iconst (v := 2) hx hb dL_law_565 (by decide) ?_
  refine lv_iadd hx hb dL_law_566 ?_
  obtain ⟨g_567, h⟩ := g_guard h
  refine va_sld hx hb hX hbl hbA hI.2 g_567 dL_law_567 ?_
  obtain ⟨q_568, e_568, h⟩ := gBind_in h
  refine g_lcM (S := (q_550.2.2, S.2.1, o_L_visit q_550.1 q_550.2.1 S.2.2)) (τ' := q_568.2) (As := [.int (xs (i + 1).toNatClampNeg), .int (xs (i + 2).toNatClampNeg)]) (rest := []) F hI (c_X10_visit l D (fun j => a (66 + j)) cI cZ (g_inj_m F.2.2.1) N S.2.1 (xs (i + 1).toNatClampNeg) (xs (i + 2).toNatClampNeg) q_568 e_568) kb_X10_visit ki_X10_visit ks_X10_visit km_L_136 ⟨(Nat.le_of_ble_eq_true rfl), (Nat.le_of_ble_eq_true rfl), rfl, rfl⟩ hl.1 rfl (Nat.le_of_ble_eq_true rfl) ⟨(by show _ ≤ 601024; omega), (by show _ ≤ 7293000; omega)⟩ dL_law_568 (fun H locs hI => ?_)
  have hI : g_LS D a (lE a cI cZ cJ (q_550.2.2, q_568.2, o_L_visit q_550.1 q_550.2.1 S.2.2)) s H locs := hI
  refine lv_istore (lv' := [(6, .int q_568.1), (5, .int (f_L_visit q_550.1)), (0, .ref b), (1, .ref (a 0)), (2, .ref (a 66)), (3, .ref (a 65)), (4, .int i)]) hx hb dL_law_571 hl (by decide) rfl (fun ls hl => ?_)
  refine lv_aload_n hx hb dL_law_573 rfl (lv_at hl 4 rfl) ?_
  refine g_lcM (S := (q_550.2.2, q_568.2, o_L_visit q_550.1 q_550.2.1 S.2.2)) (τ' := q_568.2) (As := []) (rest := []) F hI (c_X10_thrown l D (fun j => a (66 + j)) cI cZ (g_inj_m F.2.2.1) q_568.2) kb_X10_thrown ki_X10_thrown ks_X10_thrown km_L_118 ⟨(Nat.le_of_ble_eq_true rfl), (Nat.le_of_ble_eq_true rfl), rfl, rfl⟩ hl.1 rfl (Nat.le_of_ble_eq_true rfl) ⟨(by show _ ≤ 601024; omega), (by show _ ≤ 7293000; omega)⟩ dL_law_574 (fun H locs hI => ?_)
  have hI : g_LS D a (lE a cI cZ cJ (q_550.2.2, q_568.2, o_L_visit q_550.1 q_550.2.1 S.2.2)) s H locs := hI
  refine lv_iload hx hb dL_law_577 (lv_at hl 1 rfl) ?_
  refine lv_icmp_eq (tgt := 584) hx hb dL_law_579 (by decide) (fun c_579 => ?_) (fun c_579 => ?_)
  · have h := (if_pos c_579).symm.trans h
    refine lv_iload hx hb dL_law_584 (lv_at hl 1 rfl) ?_
    obtain ⟨j601, hj601, h⟩ := gJoin0_in h
    have J601 : ∀ (H : Heap) (locs : List Loc) (ls : Array Slot), j601  = some out → g_LS D a (lE a cI cZ cJ (q_550.2.2, q_568.2, o_L_visit q_550.1 q_550.2.1 S.2.2)) s H locs → lv_has ls 7 [(0, .ref b), (1, .ref (a 0)), (2, .ref (a 66)), (3, .ref (a 65)), (4, .int i)] → W p l e room_1 s m #[Value.ref b] below meth c H locs (K + 4) (SL + 24) Q (F0 m 601 ls []) := by
      intro  H locs ls h hI hl
      rw [hj601] at h
      refine lv_goto (tgt := 2060) hx hb dL_law_601 (by decide) ?_
      refine W.widen (k := K + 8) (n := SL + 48) (by omega) (by omega) ?_
      exact J2060 _ _ _ trivial h hI (lv_sub hl [0, 1, 2, 3, 4] rfl)
    refine lv_if_ne (tgt := 601) hx hb dL_law_586 (by decide) (fun c_586 => ?_) (fun c_586 => ?_)
    · have h := (if_neg c_586).symm.trans h
      exact J601 _ _ _ h hI (lv_sub hl [2, 3, 4, 5, 6] rfl)
    · have h := (if_pos c_586).symm.trans h
      refine lv_aload_n hx hb dL_law_589 rfl (lv_at hl 5 rfl) ?_
      refine lv_iconst (v := 0) hx hb dL_law_590 (by decide) ?_
      refine g_llald F hI dL_law_591 ?_
      refine lv_iload hx hb dL_law_592 (lv_at hl 0 rfl) ?_
      refine lv_i2l hx hb dL_law_594 rfl ?_
      refine W.lcmp hx hb dL_law_595 ?_
      refine lv_if_eq (tgt := 601) hx hb dL_law_596 (by decide) (fun c_596 => ?_) (fun c_596 => ?_)
      · have h := (if_pos c_596).symm.trans h
        exact J601 _ _ _ h hI (lv_sub hl [2, 3, 4, 5, 6] rfl)
      · have h := (if_neg c_596).symm.trans h
        refine lv_iconst (v := 0) hx hb dL_law_599 (by decide) ?_
        have h := Option.some.inj h
        subst h
        exact hq _ _ _ _ _ _ (by omega) (by omega) hI dL_law_600
  · have h := (if_neg c_579).symm.trans h
    refine lv_iconst (v := 0) hx hb dL_law_582 (by decide) ?_
    have h := Option.some.inj h
    subst h
    exact hq _ _ _ _ _ _ (by omega) (by omega) hI dL_law_583
theorem kd_L_arrange : yL_arrange.cls ≠ "java/lang/invoke/MethodHandle" ∧ yL_arrange.cls ≠ "java/lang/invoke/VarHandle" ∧ (parseMethodDescriptor yL_arrange.desc).map (fun d => d.parameters.length) = some 4 := by decide +kernel
def f_L_case5 (N L : Nat) (xs : Nat → Int32) (i : Int32) (S : lSt) (jn : lSt → Option Int32) : Option Int32 :=
  if i + 1 < 0 ∨ L ≤ (i + 1).toNatClampNeg then none else
  if i + 2 < 0 ∨ L ≤ (i + 2).toNatClampNeg then none else
  (f_X9_arrange N S.1 (xs (i + 1).toNatClampNeg) (xs (i + 2).toNatClampNeg)).bind (fun (q_618 : Nat × Int32 × gSt) =>
  if ¬ (q_618.1 = 0 ∨ q_618.1 = 1 ∨ q_618.1 = 2 ∨ q_618.1 = 3) then none else
  if i + 1 < 0 ∨ L ≤ (i + 1).toNatClampNeg then none else
  if i + 2 < 0 ∨ L ≤ (i + 2).toNatClampNeg then none else
  (f_X10_arrange N S.2.1 (xs (i + 1).toNatClampNeg) (xs (i + 2).toNatClampNeg)).bind (fun (q_636 : Int32 × gSt) =>
  if f_X10_thrown q_636.2 = f_L_arrange q_618.1 then
    gJoin0 (
        jn (q_618.2.2, q_636.2, o_L_arrange q_618.1 q_618.2.1 S.2.2)) (fun j669 =>
      if f_L_arrange q_618.1 = 0 then
        if lg_cmp (o_L_arrange q_618.1 q_618.2.1 S.2.2 0) q_636.1.toInt64 = 0 then
          j669
        else
          some 0
      else
        j669)
  else
    some 0))
set_option maxRecDepth 100000 in
set_option maxHeartbeats 8000000 in
theorem w_L_case5 {p : Program} {e : Env} {s : State} {m : MethodId} {below : List Frame} {meth : Method} {c : Code} {l : Launch} {b L : Nat} {xs : Nat → Int32} {D : va_G} {a : Nat → Nat} {cI cZ cJ : ClassId} {sa : Nat → Nat} {Q : State → Prop} {N : Nat} {i : Int32} {S : lSt} {jn : lSt → Option Int32} {out : Int32} {K SL : Nat} (F : g_LF p l m c s #[Value.ref b] D a cI cZ cJ sa) (hX : va_X b L xs s s.heap) (hbl : b < s.heap.size) (hK : K + 8 ≤ 601024) (hSL : SL + 48 ≤ 7293000)
    (hq : ∀ {S : lSt} (H : Heap) (locs : List Loc) (pc : Nat) (ls : Array Slot) (cl sl : Nat), cl ≤ 601024 → sl ≤ 7293000 → g_LS D a (lE a cI cZ cJ S) s H locs → decode cL_law pc = .ok (.ireturn, 1) → W p l e room_1 s m #[Value.ref b] below meth c H locs cl sl Q (F0 m pc ls [.int out]))
    (J2060 : ∀ {S : lSt} (H : Heap) (locs : List Loc) (ls : Array Slot), True → jn S = some out → g_LS D a (lE a cI cZ cJ S) s H locs → lv_has ls 7 [(0, .ref b), (1, .ref (a 0)), (2, .ref (a 66)), (3, .ref (a 65)), (4, .int i)] → W p l e room_1 s m #[Value.ref b] below meth c H locs (K + 8) (SL + 48) Q (F0 m 2060 ls []))
    (h : f_L_case5 N L xs i S jn = some out) {H : Heap} {locs : List Loc} {ls : Array Slot} (hI : g_LS D a (lE a cI cZ cJ S) s H locs) (hl : lv_has ls 7 [(0, .ref b), (1, .ref (a 0)), (2, .ref (a 66)), (3, .ref (a 65)), (4, .int i)]) : W p l e room_1 s m #[Value.ref b] below meth c H locs K SL Q (F0 m 604 ls []) := by
  have hx := F.1.1
  have hb := F.1.2.1
  have hbA : ¬ (fun q => s.heap.size ≤ q) b := Nat.not_le.mpr hbl
  unfold f_L_case5 at h
  refine lv_aload_n hx hb dL_law_604 rfl (lv_at hl 1 rfl) ?_
  refine lv_aload_n hx hb dL_law_605 rfl (lv_at hl 0 rfl) ?_
  refine lv_iload hx hb dL_law_606 (lv_at hl 4 rfl) ?_
  refine lv_iconst (v := 1) hx hb dL_law_608 (by decide) ?_
  refine lv_iadd hx hb dL_law_609 ?_
  obtain ⟨g_610, h⟩ := g_guard h
  refine va_sld hx hb hX hbl hbA hI.2 g_610 dL_law_610 ?_
  refine lv_aload_n hx hb dL_law_611 rfl (lv_at hl 0 rfl) ?_
  refine lv_iload hx hb dL_law_612 (lv_at hl 4 rfl) ?_
  refine lv_iconst (v := 2) hx hb dL_law_614 (by decide) ?_
  refine lv_iadd hx hb dL_law_615 ?_
  obtain ⟨g_616, h⟩ := g_guard h
  refine va_sld hx hb hX hbl hbA hI.2 g_616 dL_law_616 ?_
  refine lv_aload_n hx hb dL_law_617 rfl (lv_at hl 3 rfl) ?_
  obtain ⟨q_618, e_618, h⟩ := gBind_in h
  obtain ⟨g_618, h⟩ := g_guard h
  refine g_lcW (S := S) (σ' := q_618.2.2) (f' := o_L_arrange q_618.1 q_618.2.1 S.2.2) (As := [.ref (a 0), .int (xs (i + 1).toNatClampNeg), .int (xs (i + 2).toNatClampNeg), .ref (a 65)]) (rest := []) F hI (c_L_arrange l D a cI cJ (g_inj_sub (by decide) F.2.2.1) F.2.2.2.2.2.2.2 sa N (xs (i + 1).toNatClampNeg) (xs (i + 2).toNatClampNeg) S.1 S.2.2 q_618 e_618 (Decidable.not_not.mp g_618)) kh_L_arrange kn_L kd_L_arrange kt_L_arrange km_L_137 ⟨(Nat.le_of_ble_eq_true rfl), (Nat.le_of_ble_eq_true rfl), rfl, rfl⟩ hl.1 rfl (Nat.le_of_ble_eq_true rfl) ⟨(by show _ ≤ 601024; omega), (by show _ ≤ 7293000; omega)⟩ dL_law_618 (fun H locs hI => ?_)
  have hI : g_LS D a (lE a cI cZ cJ (q_618.2.2, S.2.1, o_L_arrange q_618.1 q_618.2.1 S.2.2)) s H locs := hI
  refine lv_istore (lv' := [(5, .int (f_L_arrange q_618.1)), (0, .ref b), (1, .ref (a 0)), (2, .ref (a 66)), (3, .ref (a 65)), (4, .int i)]) hx hb dL_law_621 hl (by decide) rfl (fun ls hl => ?_)
  refine lv_aload_n hx hb dL_law_623 rfl (lv_at hl 3 rfl) ?_
  refine lv_aload_n hx hb dL_law_624 rfl (lv_at hl 1 rfl) ?_
  refine lv_iload hx hb dL_law_625 (lv_at hl 5 rfl) ?_
  refine lv_iconst (v := 1) hx hb dL_law_627 (by decide) ?_
  refine lv_iadd hx hb dL_law_628 ?_
  obtain ⟨g_629, h⟩ := g_guard h
  refine va_sld hx hb hX hbl hbA hI.2 g_629 dL_law_629 ?_
  refine lv_aload_n hx hb dL_law_630 rfl (lv_at hl 1 rfl) ?_
  refine lv_iload hx hb dL_law_631 (lv_at hl 5 rfl) ?_
  refine lv_iconst (v := 2) hx hb dL_law_633 (by decide) ?_
  refine lv_iadd hx hb dL_law_634 ?_
  obtain ⟨g_635, h⟩ := g_guard h
  refine va_sld hx hb hX hbl hbA hI.2 g_635 dL_law_635 ?_
  obtain ⟨q_636, e_636, h⟩ := gBind_in h
  refine g_lcM (S := (q_618.2.2, S.2.1, o_L_arrange q_618.1 q_618.2.1 S.2.2)) (τ' := q_636.2) (As := [.int (xs (i + 1).toNatClampNeg), .int (xs (i + 2).toNatClampNeg)]) (rest := []) F hI (c_X10_arrange l D (fun j => a (66 + j)) cI cZ (g_inj_m F.2.2.1) N S.2.1 (xs (i + 1).toNatClampNeg) (xs (i + 2).toNatClampNeg) q_636 e_636) kb_X10_arrange ki_X10_arrange ks_X10_arrange km_L_139 ⟨(Nat.le_of_ble_eq_true rfl), (Nat.le_of_ble_eq_true rfl), rfl, rfl⟩ hl.1 rfl (Nat.le_of_ble_eq_true rfl) ⟨(by show _ ≤ 601024; omega), (by show _ ≤ 7293000; omega)⟩ dL_law_636 (fun H locs hI => ?_)
  have hI : g_LS D a (lE a cI cZ cJ (q_618.2.2, q_636.2, o_L_arrange q_618.1 q_618.2.1 S.2.2)) s H locs := hI
  refine lv_istore (lv' := [(6, .int q_636.1), (5, .int (f_L_arrange q_618.1)), (0, .ref b), (1, .ref (a 0)), (2, .ref (a 66)), (3, .ref (a 65)), (4, .int i)]) hx hb dL_law_639 hl (by decide) rfl (fun ls hl => ?_)
  refine lv_aload_n hx hb dL_law_641 rfl (lv_at hl 4 rfl) ?_
  refine g_lcM (S := (q_618.2.2, q_636.2, o_L_arrange q_618.1 q_618.2.1 S.2.2)) (τ' := q_636.2) (As := []) (rest := []) F hI (c_X10_thrown l D (fun j => a (66 + j)) cI cZ (g_inj_m F.2.2.1) q_636.2) kb_X10_thrown ki_X10_thrown ks_X10_thrown km_L_118 ⟨(Nat.le_of_ble_eq_true rfl), (Nat.le_of_ble_eq_true rfl), rfl, rfl⟩ hl.1 rfl (Nat.le_of_ble_eq_true rfl) ⟨(by show _ ≤ 601024; omega), (by show _ ≤ 7293000; omega)⟩ dL_law_642 (fun H locs hI => ?_)
  have hI : g_LS D a (lE a cI cZ cJ (q_618.2.2, q_636.2, o_L_arrange q_618.1 q_618.2.1 S.2.2)) s H locs := hI
  refine lv_iload hx hb dL_law_645 (lv_at hl 1 rfl) ?_
  refine lv_icmp_eq (tgt := 652) hx hb dL_law_647 (by decide) (fun c_647 => ?_) (fun c_647 => ?_)
  · have h := (if_pos c_647).symm.trans h
    refine lv_iload hx hb dL_law_652 (lv_at hl 1 rfl) ?_
    obtain ⟨j669, hj669, h⟩ := gJoin0_in h
    have J669 : ∀ (H : Heap) (locs : List Loc) (ls : Array Slot), j669  = some out → g_LS D a (lE a cI cZ cJ (q_618.2.2, q_636.2, o_L_arrange q_618.1 q_618.2.1 S.2.2)) s H locs → lv_has ls 7 [(0, .ref b), (1, .ref (a 0)), (2, .ref (a 66)), (3, .ref (a 65)), (4, .int i)] → W p l e room_1 s m #[Value.ref b] below meth c H locs (K + 3) (SL + 18) Q (F0 m 669 ls []) := by
      intro  H locs ls h hI hl
      rw [hj669] at h
      refine lv_goto (tgt := 2060) hx hb dL_law_669 (by decide) ?_
      refine W.widen (k := K + 8) (n := SL + 48) (by omega) (by omega) ?_
      exact J2060 _ _ _ trivial h hI (lv_sub hl [0, 1, 2, 3, 4] rfl)
    refine lv_if_ne (tgt := 669) hx hb dL_law_654 (by decide) (fun c_654 => ?_) (fun c_654 => ?_)
    · have h := (if_neg c_654).symm.trans h
      exact J669 _ _ _ h hI (lv_sub hl [2, 3, 4, 5, 6] rfl)
    · have h := (if_pos c_654).symm.trans h
      refine lv_aload_n hx hb dL_law_657 rfl (lv_at hl 5 rfl) ?_
      refine lv_iconst (v := 0) hx hb dL_law_658 (by decide) ?_
      refine g_llald F hI dL_law_659 ?_
      refine lv_iload hx hb dL_law_660 (lv_at hl 0 rfl) ?_
      refine lv_i2l hx hb dL_law_662 rfl ?_
      refine W.lcmp hx hb dL_law_663 ?_
      refine lv_if_eq (tgt := 669) hx hb dL_law_664 (by decide) (fun c_664 => ?_) (fun c_664 => ?_)
      · have h := (if_pos c_664).symm.trans h
        exact J669 _ _ _ h hI (lv_sub hl [2, 3, 4, 5, 6] rfl)
      · have h := (if_neg c_664).symm.trans h
        refine lv_iconst (v := 0) hx hb dL_law_667 (by decide) ?_
        have h := Option.some.inj h
        subst h
        exact hq _ _ _ _ _ _ (by omega) (by omega) hI dL_law_668
  · have h := (if_neg c_647).symm.trans h
    refine lv_iconst (v := 0) hx hb dL_law_650 (by decide) ?_
    have h := Option.some.inj h
    subst h
    exact hq _ _ _ _ _ _ (by omega) (by omega) hI dL_law_651
theorem kd_L_enter : yL_enter.cls ≠ "java/lang/invoke/MethodHandle" ∧ yL_enter.cls ≠ "java/lang/invoke/VarHandle" ∧ (parseMethodDescriptor yL_enter.desc).map (fun d => d.parameters.length) = some 4 := by decide +kernel
def f_L_case6 (N L : Nat) (xs : Nat → Int32) (i : Int32) (S : lSt) (jn : lSt → Option Int32) : Option Int32 :=
  if i + 1 < 0 ∨ L ≤ (i + 1).toNatClampNeg then none else
  if i + 2 < 0 ∨ L ≤ (i + 2).toNatClampNeg then none else
  (some (f_X9_enter S.1 (xs (i + 1).toNatClampNeg) (xs (i + 2).toNatClampNeg))).bind (fun (q_686 : Nat × Int32 × gSt) =>
  if ¬ (q_686.1 = 0 ∨ q_686.1 = 1 ∨ q_686.1 = 2 ∨ q_686.1 = 3) then none else
  if i + 1 < 0 ∨ L ≤ (i + 1).toNatClampNeg then none else
  if i + 2 < 0 ∨ L ≤ (i + 2).toNatClampNeg then none else
  (f_X10_enter N S.2.1 (xs (i + 1).toNatClampNeg) (xs (i + 2).toNatClampNeg)).bind (fun (q_704 : Int32 × gSt) =>
  if f_X10_thrown q_704.2 = f_L_enter q_686.1 then
    gJoin0 (
        jn (q_686.2.2, q_704.2, o_L_enter q_686.1 q_686.2.1 S.2.2)) (fun j737 =>
      if f_L_enter q_686.1 = 0 then
        if lg_cmp (o_L_enter q_686.1 q_686.2.1 S.2.2 0) q_704.1.toInt64 = 0 then
          j737
        else
          some 0
      else
        j737)
  else
    some 0))
set_option maxRecDepth 100000 in
set_option maxHeartbeats 8000000 in
theorem w_L_case6 {p : Program} {e : Env} {s : State} {m : MethodId} {below : List Frame} {meth : Method} {c : Code} {l : Launch} {b L : Nat} {xs : Nat → Int32} {D : va_G} {a : Nat → Nat} {cI cZ cJ : ClassId} {sa : Nat → Nat} {Q : State → Prop} {N : Nat} {i : Int32} {S : lSt} {jn : lSt → Option Int32} {out : Int32} {K SL : Nat} (F : g_LF p l m c s #[Value.ref b] D a cI cZ cJ sa) (hX : va_X b L xs s s.heap) (hbl : b < s.heap.size) (hK : K + 8 ≤ 601024) (hSL : SL + 48 ≤ 7293000)
    (hq : ∀ {S : lSt} (H : Heap) (locs : List Loc) (pc : Nat) (ls : Array Slot) (cl sl : Nat), cl ≤ 601024 → sl ≤ 7293000 → g_LS D a (lE a cI cZ cJ S) s H locs → decode cL_law pc = .ok (.ireturn, 1) → W p l e room_1 s m #[Value.ref b] below meth c H locs cl sl Q (F0 m pc ls [.int out]))
    (J2060 : ∀ {S : lSt} (H : Heap) (locs : List Loc) (ls : Array Slot), True → jn S = some out → g_LS D a (lE a cI cZ cJ S) s H locs → lv_has ls 7 [(0, .ref b), (1, .ref (a 0)), (2, .ref (a 66)), (3, .ref (a 65)), (4, .int i)] → W p l e room_1 s m #[Value.ref b] below meth c H locs (K + 8) (SL + 48) Q (F0 m 2060 ls []))
    (h : f_L_case6 N L xs i S jn = some out) {H : Heap} {locs : List Loc} {ls : Array Slot} (hI : g_LS D a (lE a cI cZ cJ S) s H locs) (hl : lv_has ls 7 [(0, .ref b), (1, .ref (a 0)), (2, .ref (a 66)), (3, .ref (a 65)), (4, .int i)]) : W p l e room_1 s m #[Value.ref b] below meth c H locs K SL Q (F0 m 672 ls []) := by
  have hx := F.1.1
  have hb := F.1.2.1
  have hbA : ¬ (fun q => s.heap.size ≤ q) b := Nat.not_le.mpr hbl
  unfold f_L_case6 at h
  refine lv_aload_n hx hb dL_law_672 rfl (lv_at hl 1 rfl) ?_
  refine lv_aload_n hx hb dL_law_673 rfl (lv_at hl 0 rfl) ?_
  refine lv_iload hx hb dL_law_674 (lv_at hl 4 rfl) ?_
  refine lv_iconst (v := 1) hx hb dL_law_676 (by decide) ?_
  refine lv_iadd hx hb dL_law_677 ?_
  obtain ⟨g_678, h⟩ := g_guard h
  refine va_sld hx hb hX hbl hbA hI.2 g_678 dL_law_678 ?_
  refine lv_aload_n hx hb dL_law_679 rfl (lv_at hl 0 rfl) ?_
  refine lv_iload hx hb dL_law_680 (lv_at hl 4 rfl) ?_
  refine lv_iconst (v := 2) hx hb dL_law_682 (by decide) ?_
  refine lv_iadd hx hb dL_law_683 ?_
  obtain ⟨g_684, h⟩ := g_guard h
  refine va_sld hx hb hX hbl hbA hI.2 g_684 dL_law_684 ?_
  refine lv_aload_n hx hb dL_law_685 rfl (lv_at hl 3 rfl) ?_
  obtain ⟨q_686, e_686, h⟩ := gBind_in h
  obtain ⟨g_686, h⟩ := g_guard h
  refine g_lcW (S := S) (σ' := q_686.2.2) (f' := o_L_enter q_686.1 q_686.2.1 S.2.2) (As := [.ref (a 0), .int (xs (i + 1).toNatClampNeg), .int (xs (i + 2).toNatClampNeg), .ref (a 65)]) (rest := []) F hI (c_L_enter l D a cI cJ (g_inj_sub (by decide) F.2.2.1) F.2.2.2.2.2.2.2 sa (xs (i + 1).toNatClampNeg) (xs (i + 2).toNatClampNeg) S.1 S.2.2 q_686 (Option.some.inj e_686) (Decidable.not_not.mp g_686)) kh_L_enter kn_L kd_L_enter kt_L_enter km_L_140 ⟨(Nat.le_of_ble_eq_true rfl), (Nat.le_of_ble_eq_true rfl), rfl, rfl⟩ hl.1 rfl (Nat.le_of_ble_eq_true rfl) ⟨(by show _ ≤ 601024; omega), (by show _ ≤ 7293000; omega)⟩ dL_law_686 (fun H locs hI => ?_)
  have hI : g_LS D a (lE a cI cZ cJ (q_686.2.2, S.2.1, o_L_enter q_686.1 q_686.2.1 S.2.2)) s H locs := hI
  refine lv_istore (lv' := [(5, .int (f_L_enter q_686.1)), (0, .ref b), (1, .ref (a 0)), (2, .ref (a 66)), (3, .ref (a 65)), (4, .int i)]) hx hb dL_law_689 hl (by decide) rfl (fun ls hl => ?_)
  refine lv_aload_n hx hb dL_law_691 rfl (lv_at hl 3 rfl) ?_
  refine lv_aload_n hx hb dL_law_692 rfl (lv_at hl 1 rfl) ?_
  refine lv_iload hx hb dL_law_693 (lv_at hl 5 rfl) ?_
  refine lv_iconst (v := 1) hx hb dL_law_695 (by decide) ?_
  refine lv_iadd hx hb dL_law_696 ?_
  obtain ⟨g_697, h⟩ := g_guard h
  refine va_sld hx hb hX hbl hbA hI.2 g_697 dL_law_697 ?_
  refine lv_aload_n hx hb dL_law_698 rfl (lv_at hl 1 rfl) ?_
  refine lv_iload hx hb dL_law_699 (lv_at hl 5 rfl) ?_
  refine lv_iconst (v := 2) hx hb dL_law_701 (by decide) ?_
  refine lv_iadd hx hb dL_law_702 ?_
  obtain ⟨g_703, h⟩ := g_guard h
  refine va_sld hx hb hX hbl hbA hI.2 g_703 dL_law_703 ?_
  obtain ⟨q_704, e_704, h⟩ := gBind_in h
  refine g_lcM (S := (q_686.2.2, S.2.1, o_L_enter q_686.1 q_686.2.1 S.2.2)) (τ' := q_704.2) (As := [.int (xs (i + 1).toNatClampNeg), .int (xs (i + 2).toNatClampNeg)]) (rest := []) F hI (c_X10_enter l D (fun j => a (66 + j)) cI cZ (g_inj_m F.2.2.1) N S.2.1 (xs (i + 1).toNatClampNeg) (xs (i + 2).toNatClampNeg) q_704 e_704) kb_X10_enter ki_X10_enter ks_X10_enter km_L_142 ⟨(Nat.le_of_ble_eq_true rfl), (Nat.le_of_ble_eq_true rfl), rfl, rfl⟩ hl.1 rfl (Nat.le_of_ble_eq_true rfl) ⟨(by show _ ≤ 601024; omega), (by show _ ≤ 7293000; omega)⟩ dL_law_704 (fun H locs hI => ?_)
  have hI : g_LS D a (lE a cI cZ cJ (q_686.2.2, q_704.2, o_L_enter q_686.1 q_686.2.1 S.2.2)) s H locs := hI
  refine lv_istore (lv' := [(6, .int q_704.1), (5, .int (f_L_enter q_686.1)), (0, .ref b), (1, .ref (a 0)), (2, .ref (a 66)), (3, .ref (a 65)), (4, .int i)]) hx hb dL_law_707 hl (by decide) rfl (fun ls hl => ?_)
  refine lv_aload_n hx hb dL_law_709 rfl (lv_at hl 4 rfl) ?_
  refine g_lcM (S := (q_686.2.2, q_704.2, o_L_enter q_686.1 q_686.2.1 S.2.2)) (τ' := q_704.2) (As := []) (rest := []) F hI (c_X10_thrown l D (fun j => a (66 + j)) cI cZ (g_inj_m F.2.2.1) q_704.2) kb_X10_thrown ki_X10_thrown ks_X10_thrown km_L_118 ⟨(Nat.le_of_ble_eq_true rfl), (Nat.le_of_ble_eq_true rfl), rfl, rfl⟩ hl.1 rfl (Nat.le_of_ble_eq_true rfl) ⟨(by show _ ≤ 601024; omega), (by show _ ≤ 7293000; omega)⟩ dL_law_710 (fun H locs hI => ?_)
  have hI : g_LS D a (lE a cI cZ cJ (q_686.2.2, q_704.2, o_L_enter q_686.1 q_686.2.1 S.2.2)) s H locs := hI
  refine lv_iload hx hb dL_law_713 (lv_at hl 1 rfl) ?_
  refine lv_icmp_eq (tgt := 720) hx hb dL_law_715 (by decide) (fun c_715 => ?_) (fun c_715 => ?_)
  · have h := (if_pos c_715).symm.trans h
    refine lv_iload hx hb dL_law_720 (lv_at hl 1 rfl) ?_
    obtain ⟨j737, hj737, h⟩ := gJoin0_in h
    have J737 : ∀ (H : Heap) (locs : List Loc) (ls : Array Slot), j737  = some out → g_LS D a (lE a cI cZ cJ (q_686.2.2, q_704.2, o_L_enter q_686.1 q_686.2.1 S.2.2)) s H locs → lv_has ls 7 [(0, .ref b), (1, .ref (a 0)), (2, .ref (a 66)), (3, .ref (a 65)), (4, .int i)] → W p l e room_1 s m #[Value.ref b] below meth c H locs (K + 4) (SL + 24) Q (F0 m 737 ls []) := by
      intro  H locs ls h hI hl
      rw [hj737] at h
      refine lv_goto (tgt := 2060) hx hb dL_law_737 (by decide) ?_
      refine W.widen (k := K + 8) (n := SL + 48) (by omega) (by omega) ?_
      exact J2060 _ _ _ trivial h hI (lv_sub hl [0, 1, 2, 3, 4] rfl)
    refine lv_if_ne (tgt := 737) hx hb dL_law_722 (by decide) (fun c_722 => ?_) (fun c_722 => ?_)
    · have h := (if_neg c_722).symm.trans h
      exact J737 _ _ _ h hI (lv_sub hl [2, 3, 4, 5, 6] rfl)
    · have h := (if_pos c_722).symm.trans h
      refine lv_aload_n hx hb dL_law_725 rfl (lv_at hl 5 rfl) ?_
      refine lv_iconst (v := 0) hx hb dL_law_726 (by decide) ?_
      refine g_llald F hI dL_law_727 ?_
      refine lv_iload hx hb dL_law_728 (lv_at hl 0 rfl) ?_
      refine lv_i2l hx hb dL_law_730 rfl ?_
      refine W.lcmp hx hb dL_law_731 ?_
      refine lv_if_eq (tgt := 737) hx hb dL_law_732 (by decide) (fun c_732 => ?_) (fun c_732 => ?_)
      · have h := (if_pos c_732).symm.trans h
        exact J737 _ _ _ h hI (lv_sub hl [2, 3, 4, 5, 6] rfl)
      · have h := (if_neg c_732).symm.trans h
        refine lv_iconst (v := 0) hx hb dL_law_735 (by decide) ?_
        have h := Option.some.inj h
        subst h
        exact hq _ _ _ _ _ _ (by omega) (by omega) hI dL_law_736
  · have h := (if_neg c_715).symm.trans h
    refine lv_iconst (v := 0) hx hb dL_law_718 (by decide) ?_
    have h := Option.some.inj h
    subst h
    exact hq _ _ _ _ _ _ (by omega) (by omega) hI dL_law_719
theorem kd_L_draw : yL_draw.cls ≠ "java/lang/invoke/MethodHandle" ∧ yL_draw.cls ≠ "java/lang/invoke/VarHandle" ∧ (parseMethodDescriptor yL_draw.desc).map (fun d => d.parameters.length) = some 4 := by decide +kernel
def f_L_case7 (N L : Nat) (xs : Nat → Int32) (i : Int32) (S : lSt) (jn : lSt → Option Int32) : Option Int32 :=
  if i + 1 < 0 ∨ L ≤ (i + 1).toNatClampNeg then none else
  if i + 2 < 0 ∨ L ≤ (i + 2).toNatClampNeg then none else
  (f_X9_draw N S.1 (xs (i + 1).toNatClampNeg) (xs (i + 2).toNatClampNeg)).bind (fun (q_754 : Nat × Int32 × gSt) =>
  if ¬ (q_754.1 = 0 ∨ q_754.1 = 2 ∨ q_754.1 = 3) then none else
  if i + 1 < 0 ∨ L ≤ (i + 1).toNatClampNeg then none else
  if i + 2 < 0 ∨ L ≤ (i + 2).toNatClampNeg then none else
  (f_X10_draw N S.2.1 (xs (i + 1).toNatClampNeg) (xs (i + 2).toNatClampNeg)).bind (fun (q_772 : Int32 × gSt) =>
  if f_X10_thrown q_772.2 = f_L_draw q_754.1 then
    gJoin0 (
        jn (q_754.2.2, q_772.2, o_L_draw q_754.1 q_754.2.1 S.2.2)) (fun j805 =>
      if f_L_draw q_754.1 = 0 then
        if lg_cmp (o_L_draw q_754.1 q_754.2.1 S.2.2 0) q_772.1.toInt64 = 0 then
          j805
        else
          some 0
      else
        j805)
  else
    some 0))
set_option maxRecDepth 100000 in
set_option maxHeartbeats 8000000 in
theorem w_L_case7 {p : Program} {e : Env} {s : State} {m : MethodId} {below : List Frame} {meth : Method} {c : Code} {l : Launch} {b L : Nat} {xs : Nat → Int32} {D : va_G} {a : Nat → Nat} {cI cZ cJ : ClassId} {sa : Nat → Nat} {Q : State → Prop} {N : Nat} {i : Int32} {S : lSt} {jn : lSt → Option Int32} {out : Int32} {K SL : Nat} (F : g_LF p l m c s #[Value.ref b] D a cI cZ cJ sa) (hX : va_X b L xs s s.heap) (hbl : b < s.heap.size) (hK : K + 8 ≤ 601024) (hSL : SL + 48 ≤ 7293000)
    (hq : ∀ {S : lSt} (H : Heap) (locs : List Loc) (pc : Nat) (ls : Array Slot) (cl sl : Nat), cl ≤ 601024 → sl ≤ 7293000 → g_LS D a (lE a cI cZ cJ S) s H locs → decode cL_law pc = .ok (.ireturn, 1) → W p l e room_1 s m #[Value.ref b] below meth c H locs cl sl Q (F0 m pc ls [.int out]))
    (J2060 : ∀ {S : lSt} (H : Heap) (locs : List Loc) (ls : Array Slot), True → jn S = some out → g_LS D a (lE a cI cZ cJ S) s H locs → lv_has ls 7 [(0, .ref b), (1, .ref (a 0)), (2, .ref (a 66)), (3, .ref (a 65)), (4, .int i)] → W p l e room_1 s m #[Value.ref b] below meth c H locs (K + 8) (SL + 48) Q (F0 m 2060 ls []))
    (h : f_L_case7 N L xs i S jn = some out) {H : Heap} {locs : List Loc} {ls : Array Slot} (hI : g_LS D a (lE a cI cZ cJ S) s H locs) (hl : lv_has ls 7 [(0, .ref b), (1, .ref (a 0)), (2, .ref (a 66)), (3, .ref (a 65)), (4, .int i)]) : W p l e room_1 s m #[Value.ref b] below meth c H locs K SL Q (F0 m 740 ls []) := by
  have hx := F.1.1
  have hb := F.1.2.1
  have hbA : ¬ (fun q => s.heap.size ≤ q) b := Nat.not_le.mpr hbl
  unfold f_L_case7 at h
  refine lv_aload_n hx hb dL_law_740 rfl (lv_at hl 1 rfl) ?_
  refine lv_aload_n hx hb dL_law_741 rfl (lv_at hl 0 rfl) ?_
  refine lv_iload hx hb dL_law_742 (lv_at hl 4 rfl) ?_
  refine lv_iconst (v := 1) hx hb dL_law_744 (by decide) ?_
  refine lv_iadd hx hb dL_law_745 ?_
  obtain ⟨g_746, h⟩ := g_guard h
  refine va_sld hx hb hX hbl hbA hI.2 g_746 dL_law_746 ?_
  refine lv_aload_n hx hb dL_law_747 rfl (lv_at hl 0 rfl) ?_
  refine lv_iload hx hb dL_law_748 (lv_at hl 4 rfl) ?_
  refine lv_iconst (v := 2) hx hb dL_law_750 (by decide) ?_
  refine lv_iadd hx hb dL_law_751 ?_
  obtain ⟨g_752, h⟩ := g_guard h
  refine va_sld hx hb hX hbl hbA hI.2 g_752 dL_law_752 ?_
  refine lv_aload_n hx hb dL_law_753 rfl (lv_at hl 3 rfl) ?_
  obtain ⟨q_754, e_754, h⟩ := gBind_in h
  obtain ⟨g_754, h⟩ := g_guard h
  refine g_lcW (S := S) (σ' := q_754.2.2) (f' := o_L_draw q_754.1 q_754.2.1 S.2.2) (As := [.ref (a 0), .int (xs (i + 1).toNatClampNeg), .int (xs (i + 2).toNatClampNeg), .ref (a 65)]) (rest := []) F hI (c_L_draw l D a cI cJ (g_inj_sub (by decide) F.2.2.1) F.2.2.2.2.2.2.2 sa N (xs (i + 1).toNatClampNeg) (xs (i + 2).toNatClampNeg) S.1 S.2.2 q_754 e_754 (Decidable.not_not.mp g_754)) kh_L_draw kn_L kd_L_draw kt_L_draw km_L_143 ⟨(Nat.le_of_ble_eq_true rfl), (Nat.le_of_ble_eq_true rfl), rfl, rfl⟩ hl.1 rfl (Nat.le_of_ble_eq_true rfl) ⟨(by show _ ≤ 601024; omega), (by show _ ≤ 7293000; omega)⟩ dL_law_754 (fun H locs hI => ?_)
  have hI : g_LS D a (lE a cI cZ cJ (q_754.2.2, S.2.1, o_L_draw q_754.1 q_754.2.1 S.2.2)) s H locs := hI
  refine lv_istore (lv' := [(5, .int (f_L_draw q_754.1)), (0, .ref b), (1, .ref (a 0)), (2, .ref (a 66)), (3, .ref (a 65)), (4, .int i)]) hx hb dL_law_757 hl (by decide) rfl (fun ls hl => ?_)
  refine lv_aload_n hx hb dL_law_759 rfl (lv_at hl 3 rfl) ?_
  refine lv_aload_n hx hb dL_law_760 rfl (lv_at hl 1 rfl) ?_
  refine lv_iload hx hb dL_law_761 (lv_at hl 5 rfl) ?_
  refine lv_iconst (v := 1) hx hb dL_law_763 (by decide) ?_
  refine lv_iadd hx hb dL_law_764 ?_
  obtain ⟨g_765, h⟩ := g_guard h
  refine va_sld hx hb hX hbl hbA hI.2 g_765 dL_law_765 ?_
  refine lv_aload_n hx hb dL_law_766 rfl (lv_at hl 1 rfl) ?_
  refine lv_iload hx hb dL_law_767 (lv_at hl 5 rfl) ?_
  refine lv_iconst (v := 2) hx hb dL_law_769 (by decide) ?_
  refine lv_iadd hx hb dL_law_770 ?_
  obtain ⟨g_771, h⟩ := g_guard h
  refine va_sld hx hb hX hbl hbA hI.2 g_771 dL_law_771 ?_
  obtain ⟨q_772, e_772, h⟩ := gBind_in h
  refine g_lcM (S := (q_754.2.2, S.2.1, o_L_draw q_754.1 q_754.2.1 S.2.2)) (τ' := q_772.2) (As := [.int (xs (i + 1).toNatClampNeg), .int (xs (i + 2).toNatClampNeg)]) (rest := []) F hI (c_X10_draw l D (fun j => a (66 + j)) cI cZ (g_inj_m F.2.2.1) N S.2.1 (xs (i + 1).toNatClampNeg) (xs (i + 2).toNatClampNeg) q_772 e_772) kb_X10_draw ki_X10_draw ks_X10_draw km_L_145 ⟨(Nat.le_of_ble_eq_true rfl), (Nat.le_of_ble_eq_true rfl), rfl, rfl⟩ hl.1 rfl (Nat.le_of_ble_eq_true rfl) ⟨(by show _ ≤ 601024; omega), (by show _ ≤ 7293000; omega)⟩ dL_law_772 (fun H locs hI => ?_)
  have hI : g_LS D a (lE a cI cZ cJ (q_754.2.2, q_772.2, o_L_draw q_754.1 q_754.2.1 S.2.2)) s H locs := hI
  refine lv_istore (lv' := [(6, .int q_772.1), (5, .int (f_L_draw q_754.1)), (0, .ref b), (1, .ref (a 0)), (2, .ref (a 66)), (3, .ref (a 65)), (4, .int i)]) hx hb dL_law_775 hl (by decide) rfl (fun ls hl => ?_)
  refine lv_aload_n hx hb dL_law_777 rfl (lv_at hl 4 rfl) ?_
  refine g_lcM (S := (q_754.2.2, q_772.2, o_L_draw q_754.1 q_754.2.1 S.2.2)) (τ' := q_772.2) (As := []) (rest := []) F hI (c_X10_thrown l D (fun j => a (66 + j)) cI cZ (g_inj_m F.2.2.1) q_772.2) kb_X10_thrown ki_X10_thrown ks_X10_thrown km_L_118 ⟨(Nat.le_of_ble_eq_true rfl), (Nat.le_of_ble_eq_true rfl), rfl, rfl⟩ hl.1 rfl (Nat.le_of_ble_eq_true rfl) ⟨(by show _ ≤ 601024; omega), (by show _ ≤ 7293000; omega)⟩ dL_law_778 (fun H locs hI => ?_)
  have hI : g_LS D a (lE a cI cZ cJ (q_754.2.2, q_772.2, o_L_draw q_754.1 q_754.2.1 S.2.2)) s H locs := hI
  refine lv_iload hx hb dL_law_781 (lv_at hl 1 rfl) ?_
  refine lv_icmp_eq (tgt := 788) hx hb dL_law_783 (by decide) (fun c_783 => ?_) (fun c_783 => ?_)
  · have h := (if_pos c_783).symm.trans h
    refine lv_iload hx hb dL_law_788 (lv_at hl 1 rfl) ?_
    obtain ⟨j805, hj805, h⟩ := gJoin0_in h
    have J805 : ∀ (H : Heap) (locs : List Loc) (ls : Array Slot), j805  = some out → g_LS D a (lE a cI cZ cJ (q_754.2.2, q_772.2, o_L_draw q_754.1 q_754.2.1 S.2.2)) s H locs → lv_has ls 7 [(0, .ref b), (1, .ref (a 0)), (2, .ref (a 66)), (3, .ref (a 65)), (4, .int i)] → W p l e room_1 s m #[Value.ref b] below meth c H locs (K + 3) (SL + 18) Q (F0 m 805 ls []) := by
      intro  H locs ls h hI hl
      rw [hj805] at h
      refine lv_goto (tgt := 2060) hx hb dL_law_805 (by decide) ?_
      refine W.widen (k := K + 8) (n := SL + 48) (by omega) (by omega) ?_
      exact J2060 _ _ _ trivial h hI (lv_sub hl [0, 1, 2, 3, 4] rfl)
    refine lv_if_ne (tgt := 805) hx hb dL_law_790 (by decide) (fun c_790 => ?_) (fun c_790 => ?_)
    · have h := (if_neg c_790).symm.trans h
      exact J805 _ _ _ h hI (lv_sub hl [2, 3, 4, 5, 6] rfl)
    · have h := (if_pos c_790).symm.trans h
      refine lv_aload_n hx hb dL_law_793 rfl (lv_at hl 5 rfl) ?_
      refine lv_iconst (v := 0) hx hb dL_law_794 (by decide) ?_
      refine g_llald F hI dL_law_795 ?_
      refine lv_iload hx hb dL_law_796 (lv_at hl 0 rfl) ?_
      refine lv_i2l hx hb dL_law_798 rfl ?_
      refine W.lcmp hx hb dL_law_799 ?_
      refine lv_if_eq (tgt := 805) hx hb dL_law_800 (by decide) (fun c_800 => ?_) (fun c_800 => ?_)
      · have h := (if_pos c_800).symm.trans h
        exact J805 _ _ _ h hI (lv_sub hl [2, 3, 4, 5, 6] rfl)
      · have h := (if_neg c_800).symm.trans h
        refine lv_iconst (v := 0) hx hb dL_law_803 (by decide) ?_
        have h := Option.some.inj h
        subst h
        exact hq _ _ _ _ _ _ (by omega) (by omega) hI dL_law_804
  · have h := (if_neg c_783).symm.trans h
    refine lv_iconst (v := 0) hx hb dL_law_786 (by decide) ?_
    have h := Option.some.inj h
    subst h
    exact hq _ _ _ _ _ _ (by omega) (by omega) hI dL_law_787
theorem kd_L_punch : yL_punch.cls ≠ "java/lang/invoke/MethodHandle" ∧ yL_punch.cls ≠ "java/lang/invoke/VarHandle" ∧ (parseMethodDescriptor yL_punch.desc).map (fun d => d.parameters.length) = some 5 := by decide +kernel
def f_L_case8 (N L : Nat) (xs : Nat → Int32) (i : Int32) (S : lSt) (jn : lSt → Option Int32) : Option Int32 :=
  if i + 1 < 0 ∨ L ≤ (i + 1).toNatClampNeg then none else
  if i + 2 < 0 ∨ L ≤ (i + 2).toNatClampNeg then none else
  if i + 3 < 0 ∨ L ≤ (i + 3).toNatClampNeg then none else
  (f_X9_punch N S.1 (xs (i + 1).toNatClampNeg) (xs (i + 2).toNatClampNeg) (xs (i + 3).toNatClampNeg)).bind (fun (q_828 : Nat × Int32 × gSt) =>
  if ¬ (q_828.1 = 0 ∨ q_828.1 = 1 ∨ q_828.1 = 3 ∨ q_828.1 = 2) then none else
  if i + 1 < 0 ∨ L ≤ (i + 1).toNatClampNeg then none else
  if i + 2 < 0 ∨ L ≤ (i + 2).toNatClampNeg then none else
  if i + 3 < 0 ∨ L ≤ (i + 3).toNatClampNeg then none else
  (f_X10_punch N S.2.1 (xs (i + 1).toNatClampNeg) (xs (i + 2).toNatClampNeg) (xs (i + 3).toNatClampNeg)).bind (fun (q_852 : Int32 × gSt) =>
  if f_X10_thrown q_852.2 = f_L_punch q_828.1 then
    gJoin0 (
        jn (q_828.2.2, q_852.2, o_L_punch q_828.1 q_828.2.1 S.2.2)) (fun j885 =>
      if f_L_punch q_828.1 = 0 then
        if lg_cmp (o_L_punch q_828.1 q_828.2.1 S.2.2 0) q_852.1.toInt64 = 0 then
          j885
        else
          some 0
      else
        j885)
  else
    some 0))
set_option maxRecDepth 100000 in
set_option maxHeartbeats 8000000 in
theorem w_L_case8 {p : Program} {e : Env} {s : State} {m : MethodId} {below : List Frame} {meth : Method} {c : Code} {l : Launch} {b L : Nat} {xs : Nat → Int32} {D : va_G} {a : Nat → Nat} {cI cZ cJ : ClassId} {sa : Nat → Nat} {Q : State → Prop} {N : Nat} {i : Int32} {S : lSt} {jn : lSt → Option Int32} {out : Int32} {K SL : Nat} (F : g_LF p l m c s #[Value.ref b] D a cI cZ cJ sa) (hX : va_X b L xs s s.heap) (hbl : b < s.heap.size) (hK : K + 8 ≤ 601024) (hSL : SL + 48 ≤ 7293000)
    (hq : ∀ {S : lSt} (H : Heap) (locs : List Loc) (pc : Nat) (ls : Array Slot) (cl sl : Nat), cl ≤ 601024 → sl ≤ 7293000 → g_LS D a (lE a cI cZ cJ S) s H locs → decode cL_law pc = .ok (.ireturn, 1) → W p l e room_1 s m #[Value.ref b] below meth c H locs cl sl Q (F0 m pc ls [.int out]))
    (J2060 : ∀ {S : lSt} (H : Heap) (locs : List Loc) (ls : Array Slot), True → jn S = some out → g_LS D a (lE a cI cZ cJ S) s H locs → lv_has ls 7 [(0, .ref b), (1, .ref (a 0)), (2, .ref (a 66)), (3, .ref (a 65)), (4, .int i)] → W p l e room_1 s m #[Value.ref b] below meth c H locs (K + 8) (SL + 48) Q (F0 m 2060 ls []))
    (h : f_L_case8 N L xs i S jn = some out) {H : Heap} {locs : List Loc} {ls : Array Slot} (hI : g_LS D a (lE a cI cZ cJ S) s H locs) (hl : lv_has ls 7 [(0, .ref b), (1, .ref (a 0)), (2, .ref (a 66)), (3, .ref (a 65)), (4, .int i)]) : W p l e room_1 s m #[Value.ref b] below meth c H locs K SL Q (F0 m 808 ls []) := by
  have hx := F.1.1
  have hb := F.1.2.1
  have hbA : ¬ (fun q => s.heap.size ≤ q) b := Nat.not_le.mpr hbl
  unfold f_L_case8 at h
  refine lv_aload_n hx hb dL_law_808 rfl (lv_at hl 1 rfl) ?_
  refine lv_aload_n hx hb dL_law_809 rfl (lv_at hl 0 rfl) ?_
  refine lv_iload hx hb dL_law_810 (lv_at hl 4 rfl) ?_
  refine lv_iconst (v := 1) hx hb dL_law_812 (by decide) ?_
  refine lv_iadd hx hb dL_law_813 ?_
  obtain ⟨g_814, h⟩ := g_guard h
  refine va_sld hx hb hX hbl hbA hI.2 g_814 dL_law_814 ?_
  refine lv_aload_n hx hb dL_law_815 rfl (lv_at hl 0 rfl) ?_
  refine lv_iload hx hb dL_law_816 (lv_at hl 4 rfl) ?_
  refine lv_iconst (v := 2) hx hb dL_law_818 (by decide) ?_
  refine lv_iadd hx hb dL_law_819 ?_
  obtain ⟨g_820, h⟩ := g_guard h
  refine va_sld hx hb hX hbl hbA hI.2 g_820 dL_law_820 ?_
  refine lv_aload_n hx hb dL_law_821 rfl (lv_at hl 0 rfl) ?_
  refine lv_iload hx hb dL_law_822 (lv_at hl 4 rfl) ?_
  refine lv_iconst (v := 3) hx hb dL_law_824 (by decide) ?_
  refine lv_iadd hx hb dL_law_825 ?_
  obtain ⟨g_826, h⟩ := g_guard h
  refine va_sld hx hb hX hbl hbA hI.2 g_826 dL_law_826 ?_
  refine lv_aload_n hx hb dL_law_827 rfl (lv_at hl 3 rfl) ?_
  obtain ⟨q_828, e_828, h⟩ := gBind_in h
  obtain ⟨g_828, h⟩ := g_guard h
  refine g_lcW (S := S) (σ' := q_828.2.2) (f' := o_L_punch q_828.1 q_828.2.1 S.2.2) (As := [.ref (a 0), .int (xs (i + 1).toNatClampNeg), .int (xs (i + 2).toNatClampNeg), .int (xs (i + 3).toNatClampNeg), .ref (a 65)]) (rest := []) F hI (c_L_punch l D a cI cJ (g_inj_sub (by decide) F.2.2.1) F.2.2.2.2.2.2.2 sa N (xs (i + 1).toNatClampNeg) (xs (i + 2).toNatClampNeg) (xs (i + 3).toNatClampNeg) S.1 S.2.2 q_828 e_828 (Decidable.not_not.mp g_828)) kh_L_punch kn_L kd_L_punch kt_L_punch km_L_146 ⟨(Nat.le_of_ble_eq_true rfl), (Nat.le_of_ble_eq_true rfl), rfl, rfl⟩ hl.1 rfl (Nat.le_of_ble_eq_true rfl) ⟨(by show _ ≤ 601024; omega), (by show _ ≤ 7293000; omega)⟩ dL_law_828 (fun H locs hI => ?_)
  have hI : g_LS D a (lE a cI cZ cJ (q_828.2.2, S.2.1, o_L_punch q_828.1 q_828.2.1 S.2.2)) s H locs := hI
  refine lv_istore (lv' := [(5, .int (f_L_punch q_828.1)), (0, .ref b), (1, .ref (a 0)), (2, .ref (a 66)), (3, .ref (a 65)), (4, .int i)]) hx hb dL_law_831 hl (by decide) rfl (fun ls hl => ?_)
  refine lv_aload_n hx hb dL_law_833 rfl (lv_at hl 3 rfl) ?_
  refine lv_aload_n hx hb dL_law_834 rfl (lv_at hl 1 rfl) ?_
  refine lv_iload hx hb dL_law_835 (lv_at hl 5 rfl) ?_
  refine lv_iconst (v := 1) hx hb dL_law_837 (by decide) ?_
  refine lv_iadd hx hb dL_law_838 ?_
  obtain ⟨g_839, h⟩ := g_guard h
  refine va_sld hx hb hX hbl hbA hI.2 g_839 dL_law_839 ?_
  refine lv_aload_n hx hb dL_law_840 rfl (lv_at hl 1 rfl) ?_
  refine lv_iload hx hb dL_law_841 (lv_at hl 5 rfl) ?_
  refine lv_iconst (v := 2) hx hb dL_law_843 (by decide) ?_
  refine lv_iadd hx hb dL_law_844 ?_
  obtain ⟨g_845, h⟩ := g_guard h
  refine va_sld hx hb hX hbl hbA hI.2 g_845 dL_law_845 ?_
  refine lv_aload_n hx hb dL_law_846 rfl (lv_at hl 1 rfl) ?_
  refine lv_iload hx hb dL_law_847 (lv_at hl 5 rfl) ?_
  refine lv_iconst (v := 3) hx hb dL_law_849 (by decide) ?_
  refine lv_iadd hx hb dL_law_850 ?_
  obtain ⟨g_851, h⟩ := g_guard h
  refine va_sld hx hb hX hbl hbA hI.2 g_851 dL_law_851 ?_
  obtain ⟨q_852, e_852, h⟩ := gBind_in h
  refine g_lcM (S := (q_828.2.2, S.2.1, o_L_punch q_828.1 q_828.2.1 S.2.2)) (τ' := q_852.2) (As := [.int (xs (i + 1).toNatClampNeg), .int (xs (i + 2).toNatClampNeg), .int (xs (i + 3).toNatClampNeg)]) (rest := []) F hI (c_X10_punch l D (fun j => a (66 + j)) cI cZ (g_inj_m F.2.2.1) N S.2.1 (xs (i + 1).toNatClampNeg) (xs (i + 2).toNatClampNeg) (xs (i + 3).toNatClampNeg) q_852 e_852) kb_X10_punch ki_X10_punch ks_X10_punch km_L_148 ⟨(Nat.le_of_ble_eq_true rfl), (Nat.le_of_ble_eq_true rfl), rfl, rfl⟩ hl.1 rfl (Nat.le_of_ble_eq_true rfl) ⟨(by show _ ≤ 601024; omega), (by show _ ≤ 7293000; omega)⟩ dL_law_852 (fun H locs hI => ?_)
  have hI : g_LS D a (lE a cI cZ cJ (q_828.2.2, q_852.2, o_L_punch q_828.1 q_828.2.1 S.2.2)) s H locs := hI
  refine lv_istore (lv' := [(6, .int q_852.1), (5, .int (f_L_punch q_828.1)), (0, .ref b), (1, .ref (a 0)), (2, .ref (a 66)), (3, .ref (a 65)), (4, .int i)]) hx hb dL_law_855 hl (by decide) rfl (fun ls hl => ?_)
  refine lv_aload_n hx hb dL_law_857 rfl (lv_at hl 4 rfl) ?_
  refine g_lcM (S := (q_828.2.2, q_852.2, o_L_punch q_828.1 q_828.2.1 S.2.2)) (τ' := q_852.2) (As := []) (rest := []) F hI (c_X10_thrown l D (fun j => a (66 + j)) cI cZ (g_inj_m F.2.2.1) q_852.2) kb_X10_thrown ki_X10_thrown ks_X10_thrown km_L_118 ⟨(Nat.le_of_ble_eq_true rfl), (Nat.le_of_ble_eq_true rfl), rfl, rfl⟩ hl.1 rfl (Nat.le_of_ble_eq_true rfl) ⟨(by show _ ≤ 601024; omega), (by show _ ≤ 7293000; omega)⟩ dL_law_858 (fun H locs hI => ?_)
  have hI : g_LS D a (lE a cI cZ cJ (q_828.2.2, q_852.2, o_L_punch q_828.1 q_828.2.1 S.2.2)) s H locs := hI
  refine lv_iload hx hb dL_law_861 (lv_at hl 1 rfl) ?_
  refine lv_icmp_eq (tgt := 868) hx hb dL_law_863 (by decide) (fun c_863 => ?_) (fun c_863 => ?_)
  · have h := (if_pos c_863).symm.trans h
    refine lv_iload hx hb dL_law_868 (lv_at hl 1 rfl) ?_
    obtain ⟨j885, hj885, h⟩ := gJoin0_in h
    have J885 : ∀ (H : Heap) (locs : List Loc) (ls : Array Slot), j885  = some out → g_LS D a (lE a cI cZ cJ (q_828.2.2, q_852.2, o_L_punch q_828.1 q_828.2.1 S.2.2)) s H locs → lv_has ls 7 [(0, .ref b), (1, .ref (a 0)), (2, .ref (a 66)), (3, .ref (a 65)), (4, .int i)] → W p l e room_1 s m #[Value.ref b] below meth c H locs (K + 4) (SL + 24) Q (F0 m 885 ls []) := by
      intro  H locs ls h hI hl
      rw [hj885] at h
      refine lv_goto (tgt := 2060) hx hb dL_law_885 (by decide) ?_
      refine W.widen (k := K + 8) (n := SL + 48) (by omega) (by omega) ?_
      exact J2060 _ _ _ trivial h hI (lv_sub hl [0, 1, 2, 3, 4] rfl)
    refine lv_if_ne (tgt := 885) hx hb dL_law_870 (by decide) (fun c_870 => ?_) (fun c_870 => ?_)
    · have h := (if_neg c_870).symm.trans h
      exact J885 _ _ _ h hI (lv_sub hl [2, 3, 4, 5, 6] rfl)
    · have h := (if_pos c_870).symm.trans h
      refine lv_aload_n hx hb dL_law_873 rfl (lv_at hl 5 rfl) ?_
      refine lv_iconst (v := 0) hx hb dL_law_874 (by decide) ?_
      refine g_llald F hI dL_law_875 ?_
      refine lv_iload hx hb dL_law_876 (lv_at hl 0 rfl) ?_
      refine lv_i2l hx hb dL_law_878 rfl ?_
      refine W.lcmp hx hb dL_law_879 ?_
      refine lv_if_eq (tgt := 885) hx hb dL_law_880 (by decide) (fun c_880 => ?_) (fun c_880 => ?_)
      · have h := (if_pos c_880).symm.trans h
        exact J885 _ _ _ h hI (lv_sub hl [2, 3, 4, 5, 6] rfl)
      · have h := (if_neg c_880).symm.trans h
        refine lv_iconst (v := 0) hx hb dL_law_883 (by decide) ?_
        have h := Option.some.inj h
        subst h
        exact hq _ _ _ _ _ _ (by omega) (by omega) hI dL_law_884
  · have h := (if_neg c_863).symm.trans h
    refine lv_iconst (v := 0) hx hb dL_law_866 (by decide) ?_
    have h := Option.some.inj h
    subst h
    exact hq _ _ _ _ _ _ (by omega) (by omega) hI dL_law_867
theorem kd_L_fail : yL_fail.cls ≠ "java/lang/invoke/MethodHandle" ∧ yL_fail.cls ≠ "java/lang/invoke/VarHandle" ∧ (parseMethodDescriptor yL_fail.desc).map (fun d => d.parameters.length) = some 4 := by decide +kernel
def f_L_case9 (N L : Nat) (xs : Nat → Int32) (i : Int32) (S : lSt) (jn : lSt → Option Int32) : Option Int32 :=
  if i + 1 < 0 ∨ L ≤ (i + 1).toNatClampNeg then none else
  if i + 2 < 0 ∨ L ≤ (i + 2).toNatClampNeg then none else
  gJoin1 (fun (w0_909 : Int32) =>
      (f_X9_fail N S.1 (xs (i + 1).toNatClampNeg) w0_909).bind (fun (q_910 : Nat × Int32 × gSt) =>
      if ¬ (q_910.1 = 0 ∨ q_910.1 = 1 ∨ q_910.1 = 3) then none else
      if i + 1 < 0 ∨ L ≤ (i + 1).toNatClampNeg then none else
      if i + 2 < 0 ∨ L ≤ (i + 2).toNatClampNeg then none else
      gJoin1 (fun (w0_936 : Int32) =>
          (f_X10_fail N S.2.1 (xs (i + 1).toNatClampNeg) w0_936).bind (fun (q_936 : Int32 × gSt) =>
          if f_X10_thrown q_936.2 = f_L_fail q_910.1 then
            gJoin0 (
                jn (q_910.2.2, q_936.2, o_L_fail q_910.1 q_910.2.1 S.2.2)) (fun j976 =>
              if f_L_fail q_910.1 = 0 then
                gJoin1 (fun (w0_970 : Int64) =>
                    if lg_cmp (o_L_fail q_910.1 q_910.2.1 S.2.2 0) w0_970 = 0 then
                      j976
                    else
                      some 0) (fun j970 =>
                  if q_936.1 = 0 then
                    j970 0
                  else
                    j970 1)
              else
                j976)
          else
            some 0)) (fun j936 =>
        if xs (i + 2).toNatClampNeg = 0 then
          j936 0
        else
          j936 1))) (fun j909 =>
    if xs (i + 2).toNatClampNeg = 0 then
      j909 0
    else
      j909 1)
set_option maxRecDepth 100000 in
set_option maxHeartbeats 8000000 in
theorem w_L_case9 {p : Program} {e : Env} {s : State} {m : MethodId} {below : List Frame} {meth : Method} {c : Code} {l : Launch} {b L : Nat} {xs : Nat → Int32} {D : va_G} {a : Nat → Nat} {cI cZ cJ : ClassId} {sa : Nat → Nat} {Q : State → Prop} {N : Nat} {i : Int32} {S : lSt} {jn : lSt → Option Int32} {out : Int32} {K SL : Nat} (F : g_LF p l m c s #[Value.ref b] D a cI cZ cJ sa) (hX : va_X b L xs s s.heap) (hbl : b < s.heap.size) (hK : K + 8 ≤ 601024) (hSL : SL + 48 ≤ 7293000)
    (hq : ∀ {S : lSt} (H : Heap) (locs : List Loc) (pc : Nat) (ls : Array Slot) (cl sl : Nat), cl ≤ 601024 → sl ≤ 7293000 → g_LS D a (lE a cI cZ cJ S) s H locs → decode cL_law pc = .ok (.ireturn, 1) → W p l e room_1 s m #[Value.ref b] below meth c H locs cl sl Q (F0 m pc ls [.int out]))
    (J2060 : ∀ {S : lSt} (H : Heap) (locs : List Loc) (ls : Array Slot), True → jn S = some out → g_LS D a (lE a cI cZ cJ S) s H locs → lv_has ls 7 [(0, .ref b), (1, .ref (a 0)), (2, .ref (a 66)), (3, .ref (a 65)), (4, .int i)] → W p l e room_1 s m #[Value.ref b] below meth c H locs (K + 8) (SL + 48) Q (F0 m 2060 ls []))
    (h : f_L_case9 N L xs i S jn = some out) {H : Heap} {locs : List Loc} {ls : Array Slot} (hI : g_LS D a (lE a cI cZ cJ S) s H locs) (hl : lv_has ls 7 [(0, .ref b), (1, .ref (a 0)), (2, .ref (a 66)), (3, .ref (a 65)), (4, .int i)]) : W p l e room_1 s m #[Value.ref b] below meth c H locs K SL Q (F0 m 888 ls []) := by
  have hx := F.1.1
  have hb := F.1.2.1
  have hbA : ¬ (fun q => s.heap.size ≤ q) b := Nat.not_le.mpr hbl
  unfold f_L_case9 at h
  refine lv_aload_n hx hb dL_law_888 rfl (lv_at hl 1 rfl) ?_
  refine lv_aload_n hx hb dL_law_889 rfl (lv_at hl 0 rfl) ?_
  refine lv_iload hx hb dL_law_890 (lv_at hl 4 rfl) ?_
  refine lv_iconst (v := 1) hx hb dL_law_892 (by decide) ?_
  refine lv_iadd hx hb dL_law_893 ?_
  obtain ⟨g_894, h⟩ := g_guard h
  refine va_sld hx hb hX hbl hbA hI.2 g_894 dL_law_894 ?_
  refine lv_aload_n hx hb dL_law_895 rfl (lv_at hl 0 rfl) ?_
  refine lv_iload hx hb dL_law_896 (lv_at hl 4 rfl) ?_
  refine lv_iconst (v := 2) hx hb dL_law_898 (by decide) ?_
  refine lv_iadd hx hb dL_law_899 ?_
  obtain ⟨g_900, h⟩ := g_guard h
  refine va_sld hx hb hX hbl hbA hI.2 g_900 dL_law_900 ?_
  obtain ⟨j909, hj909, h⟩ := gJoin1_in h
  have J909 : ∀ (w0_909 : Int32) (H : Heap) (locs : List Loc) (ls : Array Slot), j909 w0_909 = some out → g_LS D a (lE a cI cZ cJ S) s H locs → lv_has ls 7 [(0, .ref b), (1, .ref (a 0)), (2, .ref (a 66)), (3, .ref (a 65)), (4, .int i)] → W p l e room_1 s m #[Value.ref b] below meth c H locs K SL Q (F0 m 909 ls [.int w0_909, .int (xs (i + 1).toNatClampNeg), .ref (a 0)]) := by
    intro w0_909 H locs ls h hI hl
    rw [hj909] at h
    refine lv_aload_n hx hb dL_law_909 rfl (lv_at hl 3 rfl) ?_
    obtain ⟨q_910, e_910, h⟩ := gBind_in h
    obtain ⟨g_910, h⟩ := g_guard h
    refine g_lcW (S := S) (σ' := q_910.2.2) (f' := o_L_fail q_910.1 q_910.2.1 S.2.2) (As := [.ref (a 0), .int (xs (i + 1).toNatClampNeg), .int w0_909, .ref (a 65)]) (rest := []) F hI (c_L_fail l D a cI cJ (g_inj_sub (by decide) F.2.2.1) F.2.2.2.2.2.2.2 sa N (xs (i + 1).toNatClampNeg) w0_909 S.1 S.2.2 q_910 e_910 (Decidable.not_not.mp g_910)) kh_L_fail kn_L kd_L_fail kt_L_fail km_L_149 ⟨(Nat.le_of_ble_eq_true rfl), (Nat.le_of_ble_eq_true rfl), rfl, rfl⟩ hl.1 rfl (Nat.le_of_ble_eq_true rfl) ⟨(by show _ ≤ 601024; omega), (by show _ ≤ 7293000; omega)⟩ dL_law_910 (fun H locs hI => ?_)
    have hI : g_LS D a (lE a cI cZ cJ (q_910.2.2, S.2.1, o_L_fail q_910.1 q_910.2.1 S.2.2)) s H locs := hI
    refine lv_istore (lv' := [(5, .int (f_L_fail q_910.1)), (0, .ref b), (1, .ref (a 0)), (2, .ref (a 66)), (3, .ref (a 65)), (4, .int i)]) hx hb dL_law_913 hl (by decide) rfl (fun ls hl => ?_)
    refine lv_aload_n hx hb dL_law_915 rfl (lv_at hl 3 rfl) ?_
    refine lv_aload_n hx hb dL_law_916 rfl (lv_at hl 1 rfl) ?_
    refine lv_iload hx hb dL_law_917 (lv_at hl 5 rfl) ?_
    refine lv_iconst (v := 1) hx hb dL_law_919 (by decide) ?_
    refine lv_iadd hx hb dL_law_920 ?_
    obtain ⟨g_921, h⟩ := g_guard h
    refine va_sld hx hb hX hbl hbA hI.2 g_921 dL_law_921 ?_
    refine lv_aload_n hx hb dL_law_922 rfl (lv_at hl 1 rfl) ?_
    refine lv_iload hx hb dL_law_923 (lv_at hl 5 rfl) ?_
    refine lv_iconst (v := 2) hx hb dL_law_925 (by decide) ?_
    refine lv_iadd hx hb dL_law_926 ?_
    obtain ⟨g_927, h⟩ := g_guard h
    refine va_sld hx hb hX hbl hbA hI.2 g_927 dL_law_927 ?_
    obtain ⟨j936, hj936, h⟩ := gJoin1_in h
    have J936 : ∀ (w0_936 : Int32) (H : Heap) (locs : List Loc) (ls : Array Slot), j936 w0_936 = some out → g_LS D a (lE a cI cZ cJ (q_910.2.2, S.2.1, o_L_fail q_910.1 q_910.2.1 S.2.2)) s H locs → lv_has ls 7 [(0, .ref b), (1, .ref (a 0)), (2, .ref (a 66)), (3, .ref (a 65)), (4, .int i), (5, .int (f_L_fail q_910.1))] → W p l e room_1 s m #[Value.ref b] below meth c H locs (K + 2) (SL + 12) Q (F0 m 936 ls [.int w0_936, .int (xs (i + 1).toNatClampNeg), .ref (a 66)]) := by
      intro w0_936 H locs ls h hI hl
      rw [hj936] at h
      obtain ⟨q_936, e_936, h⟩ := gBind_in h
      refine g_lcM (S := (q_910.2.2, S.2.1, o_L_fail q_910.1 q_910.2.1 S.2.2)) (τ' := q_936.2) (As := [.int (xs (i + 1).toNatClampNeg), .int w0_936]) (rest := []) F hI (c_X10_fail l D (fun j => a (66 + j)) cI cZ (g_inj_m F.2.2.1) N S.2.1 (xs (i + 1).toNatClampNeg) w0_936 q_936 e_936) kb_X10_fail ki_X10_fail ks_X10_fail km_L_152 ⟨(Nat.le_of_ble_eq_true rfl), (Nat.le_of_ble_eq_true rfl), rfl, rfl⟩ hl.1 rfl (Nat.le_of_ble_eq_true rfl) ⟨(by show _ ≤ 601024; omega), (by show _ ≤ 7293000; omega)⟩ dL_law_936 (fun H locs hI => ?_)
      have hI : g_LS D a (lE a cI cZ cJ (q_910.2.2, q_936.2, o_L_fail q_910.1 q_910.2.1 S.2.2)) s H locs := hI
      refine lv_istore (lv' := [(6, .int q_936.1), (0, .ref b), (1, .ref (a 0)), (2, .ref (a 66)), (3, .ref (a 65)), (4, .int i), (5, .int (f_L_fail q_910.1))]) hx hb dL_law_939 hl (by decide) rfl (fun ls hl => ?_)
      refine lv_aload_n hx hb dL_law_941 rfl (lv_at hl 3 rfl) ?_
      refine g_lcM (S := (q_910.2.2, q_936.2, o_L_fail q_910.1 q_910.2.1 S.2.2)) (τ' := q_936.2) (As := []) (rest := []) F hI (c_X10_thrown l D (fun j => a (66 + j)) cI cZ (g_inj_m F.2.2.1) q_936.2) kb_X10_thrown ki_X10_thrown ks_X10_thrown km_L_118 ⟨(Nat.le_of_ble_eq_true rfl), (Nat.le_of_ble_eq_true rfl), rfl, rfl⟩ hl.1 rfl (Nat.le_of_ble_eq_true rfl) ⟨(by show _ ≤ 601024; omega), (by show _ ≤ 7293000; omega)⟩ dL_law_942 (fun H locs hI => ?_)
      have hI : g_LS D a (lE a cI cZ cJ (q_910.2.2, q_936.2, o_L_fail q_910.1 q_910.2.1 S.2.2)) s H locs := hI
      refine lv_iload hx hb dL_law_945 (lv_at hl 6 rfl) ?_
      refine lv_icmp_eq (tgt := 952) hx hb dL_law_947 (by decide) (fun c_947 => ?_) (fun c_947 => ?_)
      · have h := (if_pos c_947).symm.trans h
        refine lv_iload hx hb dL_law_952 (lv_at hl 6 rfl) ?_
        obtain ⟨j976, hj976, h⟩ := gJoin0_in h
        have J976 : ∀ (H : Heap) (locs : List Loc) (ls : Array Slot), j976  = some out → g_LS D a (lE a cI cZ cJ (q_910.2.2, q_936.2, o_L_fail q_910.1 q_910.2.1 S.2.2)) s H locs → lv_has ls 7 [(0, .ref b), (1, .ref (a 0)), (2, .ref (a 66)), (3, .ref (a 65)), (4, .int i)] → W p l e room_1 s m #[Value.ref b] below meth c H locs (K + 2) (SL + 12) Q (F0 m 976 ls []) := by
          intro  H locs ls h hI hl
          rw [hj976] at h
          refine lv_goto (tgt := 2060) hx hb dL_law_976 (by decide) ?_
          refine W.widen (k := K + 8) (n := SL + 48) (by omega) (by omega) ?_
          exact J2060 _ _ _ trivial h hI (lv_sub hl [0, 1, 2, 3, 4] rfl)
        refine lv_if_ne (tgt := 976) hx hb dL_law_954 (by decide) (fun c_954 => ?_) (fun c_954 => ?_)
        · have h := (if_neg c_954).symm.trans h
          exact J976 _ _ _ h hI (lv_sub hl [1, 2, 3, 4, 5] rfl)
        · have h := (if_pos c_954).symm.trans h
          refine lv_aload_n hx hb dL_law_957 rfl (lv_at hl 4 rfl) ?_
          refine lv_iconst (v := 0) hx hb dL_law_958 (by decide) ?_
          refine g_llald F hI dL_law_959 ?_
          refine lv_iload hx hb dL_law_960 (lv_at hl 0 rfl) ?_
          obtain ⟨j970, hj970, h⟩ := gJoin1_in h
          have J970 : ∀ (w0_970 : Int64) (H : Heap) (locs : List Loc) (ls : Array Slot), j970 w0_970 = some out → g_LS D a (lE a cI cZ cJ (q_910.2.2, q_936.2, o_L_fail q_910.1 q_910.2.1 S.2.2)) s H locs → lv_has ls 7 [(0, .ref b), (1, .ref (a 0)), (2, .ref (a 66)), (3, .ref (a 65)), (4, .int i)] → W p l e room_1 s m #[Value.ref b] below meth c H locs (K + 2) (SL + 12) Q (F0 m 970 ls [.long w0_970, .long (o_L_fail q_910.1 q_910.2.1 S.2.2 0)]) := by
            intro w0_970 H locs ls h hI hl
            rw [hj970] at h
            refine W.lcmp hx hb dL_law_970 ?_
            refine lv_if_eq (tgt := 976) hx hb dL_law_971 (by decide) (fun c_971 => ?_) (fun c_971 => ?_)
            · have h := (if_pos c_971).symm.trans h
              exact J976 _ _ _ h hI (lv_sub hl [0, 1, 2, 3, 4] rfl)
            · have h := (if_neg c_971).symm.trans h
              refine lv_iconst (v := 0) hx hb dL_law_974 (by decide) ?_
              have h := Option.some.inj h
              subst h
              exact hq _ _ _ _ _ _ (by omega) (by omega) hI dL_law_975
          refine lv_if_eq (tgt := 969) hx hb dL_law_962 (by decide) (fun c_962 => ?_) (fun c_962 => ?_)
          · have h := (if_pos c_962).symm.trans h
            refine lv_lconst (v := 0) hx hb dL_law_969 rfl ?_
            exact J970 _ _ _ _ h hI (lv_sub hl [1, 2, 3, 4, 5] rfl)
          · have h := (if_neg c_962).symm.trans h
            refine lv_lconst (v := 1) hx hb dL_law_965 rfl ?_
            refine lv_goto (tgt := 970) hx hb dL_law_966 (by decide) ?_
            exact J970 _ _ _ _ h hI (lv_sub hl [1, 2, 3, 4, 5] rfl)
      · have h := (if_neg c_947).symm.trans h
        refine lv_iconst (v := 0) hx hb dL_law_950 (by decide) ?_
        have h := Option.some.inj h
        subst h
        exact hq _ _ _ _ _ _ (by omega) (by omega) hI dL_law_951
    refine lv_if_eq (tgt := 935) hx hb dL_law_928 (by decide) (fun c_928 => ?_) (fun c_928 => ?_)
    · have h := (if_pos c_928).symm.trans h
      refine lv_iconst (v := 0) hx hb dL_law_935 (by decide) ?_
      exact J936 _ _ _ _ h hI (lv_sub hl [1, 2, 3, 4, 5, 0] rfl)
    · have h := (if_neg c_928).symm.trans h
      refine lv_iconst (v := 1) hx hb dL_law_931 (by decide) ?_
      refine lv_goto (tgt := 936) hx hb dL_law_932 (by decide) ?_
      exact J936 _ _ _ _ h hI (lv_sub hl [1, 2, 3, 4, 5, 0] rfl)
  refine lv_if_eq (tgt := 908) hx hb dL_law_901 (by decide) (fun c_901 => ?_) (fun c_901 => ?_)
  · have h := (if_pos c_901).symm.trans h
    refine lv_iconst (v := 0) hx hb dL_law_908 (by decide) ?_
    exact J909 _ _ _ _ h hI (lv_sub hl [0, 1, 2, 3, 4] rfl)
  · have h := (if_neg c_901).symm.trans h
    refine lv_iconst (v := 1) hx hb dL_law_904 (by decide) ?_
    refine lv_goto (tgt := 909) hx hb dL_law_905 (by decide) ?_
    exact J909 _ _ _ _ h hI (lv_sub hl [0, 1, 2, 3, 4] rfl)
