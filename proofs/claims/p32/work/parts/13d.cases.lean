def h_case0 (N : Nat) (v10 v11 v12 : Int32) (S : lSt) (jn : Int32 → lSt → Option Int32) : Option Int32 :=
  (h_does N S.1 0 v11 v12 ((v10 / 144) - (v10 / 144) / 60 * 60)).bind (fun (q_157 : Int32 × gSt) =>
  (h_does N S.2.1 0 v12 v11 ((v10 / 144) - (v10 / 144) / 60 * 60)).bind (fun (q_176 : Int32 × gSt) =>
  gJoin1 (fun (w0_187 : Int32) =>
      jn w0_187 (q_157.2, q_176.2, S.2.2)) (fun j187 =>
    if q_157.1 = q_176.1 then
      j187 1
    else
      j187 0)))
set_option maxRecDepth 100000 in
set_option maxHeartbeats 8000000 in
theorem w_case0 {p : Program} {e : Env} {s : State} {m : MethodId} {below : List Frame} {meth : Method} {c : Code} {l : Launch} {b : Nat} {D : va_G} {a : Nat → Nat} {cI : ClassId} {sa : Nat → Nat} {Q : State → Prop} {A : Nat → Prop} {N : Nat} {v1 v2 v7 v8 v10 v11 v12 : Int32} {S : lSt} {jn : Int32 → lSt → Option Int32} {out : Int32} {K SL : Nat} (F : g_LF A p l m c cL_law 15 s #[Value.ref b] D a cI sa) (hK : K + 8 ≤ 624708) (hSL : SL + 48 ≤ 7227575)
    (JN : ∀ (v6 : Int32) (S : lSt) (H : Heap) (locs : List Loc) (ls : Array Slot), jn v6 S = some out → g_LS A D a (lE a cI S) s H locs → lv_has ls 15 [(0, .ref b), (1, .int v1), (2, .int v2), (3, .ref (a 0)), (4, .ref (a 65)), (5, .ref (a 130)), (6, .int v6), (7, .int v7), (8, .int v8)] → W p l e room_1 s m #[Value.ref b] below meth c H locs (K + 8) (SL + 48) Q (F0 m 802 ls []))
    (h : h_case0 N v10 v11 v12 S jn = some out) {H : Heap} {locs : List Loc} {ls : Array Slot} (hI : g_LS A D a (lE a cI S) s H locs) (hl : lv_has ls 15 [(0, .ref b), (1, .int v1), (2, .int v2), (3, .ref (a 0)), (4, .ref (a 65)), (5, .ref (a 130)), (7, .int v7), (8, .int v8), (10, .int v10), (11, .int v11), (12, .int v12)]) : W p l e room_1 s m #[Value.ref b] below meth c H locs K SL Q (F0 m 142 ls []) := by
  have hx := F.1.1
  have hb := F.1.2.1
  unfold h_case0 at h
  refine lv_aload_n hx hb dL_law_142 rfl (lv_at hl 3 rfl) ?_
  refine lv_iconst (v := 0) hx hb dL_law_143 (by decide) ?_
  refine lv_iload hx hb dL_law_144 (lv_at hl 9 rfl) ?_
  refine lv_iload hx hb dL_law_146 (lv_at hl 10 rfl) ?_
  refine lv_iload hx hb dL_law_148 (lv_at hl 8 rfl) ?_
  refine lv_sipush (v := 144) hx hb dL_law_150 (by decide) ?_
  refine lv_idiv hx hb dL_law_153 (by decide) ?_
  refine lv_bipush (v := 60) hx hb dL_law_154 (by decide) ?_
  refine lv_irem hx hb dL_law_156 (by decide) ?_
  obtain ⟨q_157, e_157, h⟩ := gBind_in h
  refine g_lcA (S := S) (σ' := q_157.2) (r := q_157.1) (As := [.ref (a 0), .int 0, .int v11, .int v12, .int ((v10 / 144) - (v10 / 144) / 60 * 60)]) (rest := []) F hI (c_L_does l D a cI (g_inj_sub (by decide) F.2.2.1) F.2.2.2.2.2.2.2 sa N S.1 0 v11 v12 ((v10 / 144) - (v10 / 144) / 60 * 60) q_157 e_157) kh_L_does kn_L kd_L_does kt_L_does km_L_128 ⟨(Nat.le_of_ble_eq_true rfl), (Nat.le_of_ble_eq_true rfl), rfl, rfl⟩ hl.1 rfl (Nat.le_of_ble_eq_true rfl) ⟨(by show _ ≤ 624708; omega), (by show _ ≤ 7227575; omega)⟩ dL_law_157 (fun H locs hI => ?_)
  have hI : g_LS A D a (lE a cI (q_157.2, S.2.1, S.2.2)) s H locs := hI
  refine lv_aload hx hb dL_law_160 (lv_at hl 4 rfl) ?_
  refine lv_iconst (v := 0) hx hb dL_law_162 (by decide) ?_
  refine lv_iload hx hb dL_law_163 (lv_at hl 10 rfl) ?_
  refine lv_iload hx hb dL_law_165 (lv_at hl 9 rfl) ?_
  refine lv_iload hx hb dL_law_167 (lv_at hl 8 rfl) ?_
  refine lv_sipush (v := 144) hx hb dL_law_169 (by decide) ?_
  refine lv_idiv hx hb dL_law_172 (by decide) ?_
  refine lv_bipush (v := 60) hx hb dL_law_173 (by decide) ?_
  refine lv_irem hx hb dL_law_175 (by decide) ?_
  obtain ⟨q_176, e_176, h⟩ := gBind_in h
  refine g_lcB (S := (q_157.2, S.2.1, S.2.2)) (σ' := q_176.2) (r := q_176.1) (As := [.ref (a 65), .int 0, .int v12, .int v11, .int ((v10 / 144) - (v10 / 144) / 60 * 60)]) (rest := [.int q_157.1]) F hI (c_L_does l D (bA a) cI (g_inj_b F.2.2.1) F.2.2.2.2.2.2.2 sa N S.2.1 0 v12 v11 ((v10 / 144) - (v10 / 144) / 60 * 60) q_176 e_176) kh_L_does kn_L kd_L_does kt_L_does km_L_128 ⟨(Nat.le_of_ble_eq_true rfl), (Nat.le_of_ble_eq_true rfl), rfl, rfl⟩ hl.1 rfl (Nat.le_of_ble_eq_true rfl) ⟨(by show _ ≤ 624708; omega), (by show _ ≤ 7227575; omega)⟩ dL_law_176 (fun H locs hI => ?_)
  have hI : g_LS A D a (lE a cI (q_157.2, q_176.2, S.2.2)) s H locs := hI
  obtain ⟨j187, hj187, h⟩ := gJoin1_in h
  have J187 : ∀ (w0_187 : Int32) (H : Heap) (locs : List Loc) (ls : Array Slot), j187 w0_187 = some out → g_LS A D a (lE a cI (q_157.2, q_176.2, S.2.2)) s H locs → lv_has ls 15 [(0, .ref b), (1, .int v1), (2, .int v2), (3, .ref (a 0)), (4, .ref (a 65)), (5, .ref (a 130)), (7, .int v7), (8, .int v8)] → W p l e room_1 s m #[Value.ref b] below meth c H locs (K + 8) (SL + 48) Q (F0 m 187 ls [.int w0_187]) := by
    intro w0_187 H locs ls h hI hl
    rw [hj187] at h
    refine lv_istore (lv' := [(6, .int w0_187), (0, .ref b), (1, .int v1), (2, .int v2), (3, .ref (a 0)), (4, .ref (a 65)), (5, .ref (a 130)), (7, .int v7), (8, .int v8)]) hx hb dL_law_187 hl (by decide) rfl (fun ls hl => ?_)
    refine lv_goto (tgt := 802) hx hb dL_law_189 (by decide) ?_
    refine W.widen (k := (K + 8)) (n := (SL + 48)) (by omega) (by omega) ?_
    exact JN w0_187 (q_157.2, q_176.2, S.2.2) _ _ _ h hI (lv_sub hl [1, 2, 3, 4, 5, 6, 0, 7, 8] rfl)
  refine lv_icmp_ne (tgt := 186) hx hb dL_law_179 (by decide) (fun c_179 => ?_) (fun c_179 => ?_)
  · have h := (if_neg c_179).symm.trans h
    refine lv_iconst (v := 0) hx hb dL_law_186 (by decide) ?_
    refine W.widen (k := (K + 8)) (n := (SL + 48)) (by omega) (by omega) ?_
    exact J187 _ _ _ _ h hI (lv_sub hl [0, 1, 2, 3, 4, 5, 6, 7] rfl)
  · have h := (if_pos c_179).symm.trans h
    refine lv_iconst (v := 1) hx hb dL_law_182 (by decide) ?_
    refine lv_goto (tgt := 187) hx hb dL_law_183 (by decide) ?_
    refine W.widen (k := (K + 8)) (n := (SL + 48)) (by omega) (by omega) ?_
    exact J187 _ _ _ _ h hI (lv_sub hl [0, 1, 2, 3, 4, 5, 6, 7] rfl)
def h_case1 (N : Nat) (v10 v11 v12 : Int32) (S : lSt) (jn : Int32 → lSt → Option Int32) : Option Int32 :=
  (h_lay N S.1 0 v11 v12 ((v10 / 144) - (v10 / 144) / 80 * 80) (1 + ((v10 / 11520) - (v10 / 11520) / 20 * 20)) 0).bind (fun (q_226 : Int32 × gSt) =>
  (h_lay N S.2.1 0 v12 v11 ((v10 / 144) - (v10 / 144) / 80 * 80) (1 + ((v10 / 11520) - (v10 / 11520) / 20 * 20)) 0).bind (fun (q_257 : Int32 × gSt) =>
  gJoin1 (fun (w0_268 : Int32) =>
      jn w0_268 (q_226.2, q_257.2, S.2.2)) (fun j268 =>
    if q_226.1 = q_257.1 then
      j268 1
    else
      j268 0)))
set_option maxRecDepth 100000 in
set_option maxHeartbeats 8000000 in
theorem w_case1 {p : Program} {e : Env} {s : State} {m : MethodId} {below : List Frame} {meth : Method} {c : Code} {l : Launch} {b : Nat} {D : va_G} {a : Nat → Nat} {cI : ClassId} {sa : Nat → Nat} {Q : State → Prop} {A : Nat → Prop} {N : Nat} {v1 v2 v7 v8 v10 v11 v12 : Int32} {S : lSt} {jn : Int32 → lSt → Option Int32} {out : Int32} {K SL : Nat} (F : g_LF A p l m c cL_law 15 s #[Value.ref b] D a cI sa) (hK : K + 10 ≤ 624708) (hSL : SL + 60 ≤ 7227575)
    (JN : ∀ (v6 : Int32) (S : lSt) (H : Heap) (locs : List Loc) (ls : Array Slot), jn v6 S = some out → g_LS A D a (lE a cI S) s H locs → lv_has ls 15 [(0, .ref b), (1, .int v1), (2, .int v2), (3, .ref (a 0)), (4, .ref (a 65)), (5, .ref (a 130)), (6, .int v6), (7, .int v7), (8, .int v8)] → W p l e room_1 s m #[Value.ref b] below meth c H locs (K + 10) (SL + 60) Q (F0 m 802 ls []))
    (h : h_case1 N v10 v11 v12 S jn = some out) {H : Heap} {locs : List Loc} {ls : Array Slot} (hI : g_LS A D a (lE a cI S) s H locs) (hl : lv_has ls 15 [(0, .ref b), (1, .int v1), (2, .int v2), (3, .ref (a 0)), (4, .ref (a 65)), (5, .ref (a 130)), (7, .int v7), (8, .int v8), (10, .int v10), (11, .int v11), (12, .int v12)]) : W p l e room_1 s m #[Value.ref b] below meth c H locs K SL Q (F0 m 199 ls []) := by
  have hx := F.1.1
  have hb := F.1.2.1
  unfold h_case1 at h
  refine lv_aload_n hx hb dL_law_199 rfl (lv_at hl 3 rfl) ?_
  refine lv_iconst (v := 0) hx hb dL_law_200 (by decide) ?_
  refine lv_iload hx hb dL_law_201 (lv_at hl 9 rfl) ?_
  refine lv_iload hx hb dL_law_203 (lv_at hl 10 rfl) ?_
  refine lv_iload hx hb dL_law_205 (lv_at hl 8 rfl) ?_
  refine lv_sipush (v := 144) hx hb dL_law_207 (by decide) ?_
  refine lv_idiv hx hb dL_law_210 (by decide) ?_
  refine lv_bipush (v := 80) hx hb dL_law_211 (by decide) ?_
  refine lv_irem hx hb dL_law_213 (by decide) ?_
  refine lv_iconst (v := 1) hx hb dL_law_214 (by decide) ?_
  refine lv_iload hx hb dL_law_215 (lv_at hl 8 rfl) ?_
  refine lv_sipush (v := 11520) hx hb dL_law_217 (by decide) ?_
  refine lv_idiv hx hb dL_law_220 (by decide) ?_
  refine lv_bipush (v := 20) hx hb dL_law_221 (by decide) ?_
  refine lv_irem hx hb dL_law_223 (by decide) ?_
  refine lv_iadd hx hb dL_law_224 ?_
  refine lv_iconst (v := 0) hx hb dL_law_225 (by decide) ?_
  obtain ⟨q_226, e_226, h⟩ := gBind_in h
  refine g_lcA (S := S) (σ' := q_226.2) (r := q_226.1) (As := [.ref (a 0), .int 0, .int v11, .int v12, .int ((v10 / 144) - (v10 / 144) / 80 * 80), .int (1 + ((v10 / 11520) - (v10 / 11520) / 20 * 20)), .int 0]) (rest := []) F hI (c_L_lay l D a cI (g_inj_sub (by decide) F.2.2.1) F.2.2.2.2.2.2.2 sa N S.1 0 v11 v12 ((v10 / 144) - (v10 / 144) / 80 * 80) (1 + ((v10 / 11520) - (v10 / 11520) / 20 * 20)) 0 q_226 e_226) kh_L_lay kn_L kd_L_lay kt_L_lay km_L_132 ⟨(Nat.le_of_ble_eq_true rfl), (Nat.le_of_ble_eq_true rfl), rfl, rfl⟩ hl.1 rfl (Nat.le_of_ble_eq_true rfl) ⟨(by show _ ≤ 624708; omega), (by show _ ≤ 7227575; omega)⟩ dL_law_226 (fun H locs hI => ?_)
  have hI : g_LS A D a (lE a cI (q_226.2, S.2.1, S.2.2)) s H locs := hI
  refine lv_aload hx hb dL_law_229 (lv_at hl 4 rfl) ?_
  refine lv_iconst (v := 0) hx hb dL_law_231 (by decide) ?_
  refine lv_iload hx hb dL_law_232 (lv_at hl 10 rfl) ?_
  refine lv_iload hx hb dL_law_234 (lv_at hl 9 rfl) ?_
  refine lv_iload hx hb dL_law_236 (lv_at hl 8 rfl) ?_
  refine lv_sipush (v := 144) hx hb dL_law_238 (by decide) ?_
  refine lv_idiv hx hb dL_law_241 (by decide) ?_
  refine lv_bipush (v := 80) hx hb dL_law_242 (by decide) ?_
  refine lv_irem hx hb dL_law_244 (by decide) ?_
  refine lv_iconst (v := 1) hx hb dL_law_245 (by decide) ?_
  refine lv_iload hx hb dL_law_246 (lv_at hl 8 rfl) ?_
  refine lv_sipush (v := 11520) hx hb dL_law_248 (by decide) ?_
  refine lv_idiv hx hb dL_law_251 (by decide) ?_
  refine lv_bipush (v := 20) hx hb dL_law_252 (by decide) ?_
  refine lv_irem hx hb dL_law_254 (by decide) ?_
  refine lv_iadd hx hb dL_law_255 ?_
  refine lv_iconst (v := 0) hx hb dL_law_256 (by decide) ?_
  obtain ⟨q_257, e_257, h⟩ := gBind_in h
  refine g_lcB (S := (q_226.2, S.2.1, S.2.2)) (σ' := q_257.2) (r := q_257.1) (As := [.ref (a 65), .int 0, .int v12, .int v11, .int ((v10 / 144) - (v10 / 144) / 80 * 80), .int (1 + ((v10 / 11520) - (v10 / 11520) / 20 * 20)), .int 0]) (rest := [.int q_226.1]) F hI (c_L_lay l D (bA a) cI (g_inj_b F.2.2.1) F.2.2.2.2.2.2.2 sa N S.2.1 0 v12 v11 ((v10 / 144) - (v10 / 144) / 80 * 80) (1 + ((v10 / 11520) - (v10 / 11520) / 20 * 20)) 0 q_257 e_257) kh_L_lay kn_L kd_L_lay kt_L_lay km_L_132 ⟨(Nat.le_of_ble_eq_true rfl), (Nat.le_of_ble_eq_true rfl), rfl, rfl⟩ hl.1 rfl (Nat.le_of_ble_eq_true rfl) ⟨(by show _ ≤ 624708; omega), (by show _ ≤ 7227575; omega)⟩ dL_law_257 (fun H locs hI => ?_)
  have hI : g_LS A D a (lE a cI (q_226.2, q_257.2, S.2.2)) s H locs := hI
  obtain ⟨j268, hj268, h⟩ := gJoin1_in h
  have J268 : ∀ (w0_268 : Int32) (H : Heap) (locs : List Loc) (ls : Array Slot), j268 w0_268 = some out → g_LS A D a (lE a cI (q_226.2, q_257.2, S.2.2)) s H locs → lv_has ls 15 [(0, .ref b), (1, .int v1), (2, .int v2), (3, .ref (a 0)), (4, .ref (a 65)), (5, .ref (a 130)), (7, .int v7), (8, .int v8)] → W p l e room_1 s m #[Value.ref b] below meth c H locs (K + 10) (SL + 60) Q (F0 m 268 ls [.int w0_268]) := by
    intro w0_268 H locs ls h hI hl
    rw [hj268] at h
    refine lv_istore (lv' := [(6, .int w0_268), (0, .ref b), (1, .int v1), (2, .int v2), (3, .ref (a 0)), (4, .ref (a 65)), (5, .ref (a 130)), (7, .int v7), (8, .int v8)]) hx hb dL_law_268 hl (by decide) rfl (fun ls hl => ?_)
    refine lv_goto (tgt := 802) hx hb dL_law_270 (by decide) ?_
    refine W.widen (k := (K + 10)) (n := (SL + 60)) (by omega) (by omega) ?_
    exact JN w0_268 (q_226.2, q_257.2, S.2.2) _ _ _ h hI (lv_sub hl [1, 2, 3, 4, 5, 6, 0, 7, 8] rfl)
  refine lv_icmp_ne (tgt := 267) hx hb dL_law_260 (by decide) (fun c_260 => ?_) (fun c_260 => ?_)
  · have h := (if_neg c_260).symm.trans h
    refine lv_iconst (v := 0) hx hb dL_law_267 (by decide) ?_
    refine W.widen (k := (K + 10)) (n := (SL + 60)) (by omega) (by omega) ?_
    exact J268 _ _ _ _ h hI (lv_sub hl [0, 1, 2, 3, 4, 5, 6, 7] rfl)
  · have h := (if_pos c_260).symm.trans h
    refine lv_iconst (v := 1) hx hb dL_law_263 (by decide) ?_
    refine lv_goto (tgt := 268) hx hb dL_law_264 (by decide) ?_
    refine W.widen (k := (K + 10)) (n := (SL + 60)) (by omega) (by omega) ?_
    exact J268 _ _ _ _ h hI (lv_sub hl [0, 1, 2, 3, 4, 5, 6, 7] rfl)
def h_case2 (N : Nat) (v10 v11 v12 : Int32) (S : lSt) (jn : Int32 → lSt → Option Int32) : Option Int32 :=
  (h_lay N S.1 1 v11 v12 (v11 + ((v10 / 144) - (v10 / 144) / 4 * 4)) (v12 + ((v10 / 576) - (v10 / 576) / 4 * 4)) ((v10 / 7) - (v10 / 7) / 5 * 5)).bind (fun (q_323 : Int32 × gSt) =>
  (h_lay N S.2.1 1 v12 v11 (v12 + ((v10 / 576) - (v10 / 576) / 4 * 4)) (v11 + ((v10 / 144) - (v10 / 144) / 4 * 4)) ((v10 / 7) - (v10 / 7) / 5 * 5)).bind (fun (q_344 : Int32 × gSt) =>
  gJoin1 (fun (w0_355 : Int32) =>
      jn w0_355 (q_323.2, q_344.2, S.2.2)) (fun j355 =>
    if q_323.1 = q_344.1 then
      j355 1
    else
      j355 0)))
set_option maxRecDepth 100000 in
set_option maxHeartbeats 8000000 in
theorem w_case2 {p : Program} {e : Env} {s : State} {m : MethodId} {below : List Frame} {meth : Method} {c : Code} {l : Launch} {b : Nat} {D : va_G} {a : Nat → Nat} {cI : ClassId} {sa : Nat → Nat} {Q : State → Prop} {A : Nat → Prop} {N : Nat} {v1 v2 v7 v8 v10 v11 v12 : Int32} {S : lSt} {jn : Int32 → lSt → Option Int32} {out : Int32} {K SL : Nat} (F : g_LF A p l m c cL_law 15 s #[Value.ref b] D a cI sa) (hK : K + 10 ≤ 624708) (hSL : SL + 60 ≤ 7227575)
    (JN : ∀ (v6 : Int32) (S : lSt) (H : Heap) (locs : List Loc) (ls : Array Slot), jn v6 S = some out → g_LS A D a (lE a cI S) s H locs → lv_has ls 15 [(0, .ref b), (1, .int v1), (2, .int v2), (3, .ref (a 0)), (4, .ref (a 65)), (5, .ref (a 130)), (6, .int v6), (7, .int v7), (8, .int v8)] → W p l e room_1 s m #[Value.ref b] below meth c H locs (K + 10) (SL + 60) Q (F0 m 802 ls []))
    (h : h_case2 N v10 v11 v12 S jn = some out) {H : Heap} {locs : List Loc} {ls : Array Slot} (hI : g_LS A D a (lE a cI S) s H locs) (hl : lv_has ls 15 [(0, .ref b), (1, .int v1), (2, .int v2), (3, .ref (a 0)), (4, .ref (a 65)), (5, .ref (a 130)), (7, .int v7), (8, .int v8), (10, .int v10), (11, .int v11), (12, .int v12)]) : W p l e room_1 s m #[Value.ref b] below meth c H locs K SL Q (F0 m 280 ls []) := by
  have hx := F.1.1
  have hb := F.1.2.1
  unfold h_case2 at h
  refine lv_iload hx hb dL_law_280 (lv_at hl 9 rfl) ?_
  refine lv_iload hx hb dL_law_282 (lv_at hl 8 rfl) ?_
  refine lv_sipush (v := 144) hx hb dL_law_284 (by decide) ?_
  refine lv_idiv hx hb dL_law_287 (by decide) ?_
  refine lv_iconst (v := 4) hx hb dL_law_288 (by decide) ?_
  refine lv_irem hx hb dL_law_289 (by decide) ?_
  refine lv_iadd hx hb dL_law_290 ?_
  refine lv_istore (lv' := [(13, .int (v11 + ((v10 / 144) - (v10 / 144) / 4 * 4))), (0, .ref b), (1, .int v1), (2, .int v2), (3, .ref (a 0)), (4, .ref (a 65)), (5, .ref (a 130)), (7, .int v7), (8, .int v8), (10, .int v10), (11, .int v11), (12, .int v12)]) hx hb dL_law_291 hl (by decide) rfl (fun ls hl => ?_)
  refine lv_iload hx hb dL_law_293 (lv_at hl 11 rfl) ?_
  refine lv_iload hx hb dL_law_295 (lv_at hl 9 rfl) ?_
  refine lv_sipush (v := 576) hx hb dL_law_297 (by decide) ?_
  refine lv_idiv hx hb dL_law_300 (by decide) ?_
  refine lv_iconst (v := 4) hx hb dL_law_301 (by decide) ?_
  refine lv_irem hx hb dL_law_302 (by decide) ?_
  refine lv_iadd hx hb dL_law_303 ?_
  refine lv_istore (lv' := [(14, .int (v12 + ((v10 / 576) - (v10 / 576) / 4 * 4))), (13, .int (v11 + ((v10 / 144) - (v10 / 144) / 4 * 4))), (0, .ref b), (1, .int v1), (2, .int v2), (3, .ref (a 0)), (4, .ref (a 65)), (5, .ref (a 130)), (7, .int v7), (8, .int v8), (10, .int v10), (11, .int v11), (12, .int v12)]) hx hb dL_law_304 hl (by decide) rfl (fun ls hl => ?_)
  refine lv_aload_n hx hb dL_law_306 rfl (lv_at hl 5 rfl) ?_
  refine lv_iconst (v := 1) hx hb dL_law_307 (by decide) ?_
  refine lv_iload hx hb dL_law_308 (lv_at hl 11 rfl) ?_
  refine lv_iload hx hb dL_law_310 (lv_at hl 12 rfl) ?_
  refine lv_iload hx hb dL_law_312 (lv_at hl 1 rfl) ?_
  refine lv_iload hx hb dL_law_314 (lv_at hl 0 rfl) ?_
  refine lv_iload hx hb dL_law_316 (lv_at hl 10 rfl) ?_
  refine lv_bipush (v := 7) hx hb dL_law_318 (by decide) ?_
  refine lv_idiv hx hb dL_law_320 (by decide) ?_
  refine lv_iconst (v := 5) hx hb dL_law_321 (by decide) ?_
  refine lv_irem hx hb dL_law_322 (by decide) ?_
  obtain ⟨q_323, e_323, h⟩ := gBind_in h
  refine g_lcA (S := S) (σ' := q_323.2) (r := q_323.1) (As := [.ref (a 0), .int 1, .int v11, .int v12, .int (v11 + ((v10 / 144) - (v10 / 144) / 4 * 4)), .int (v12 + ((v10 / 576) - (v10 / 576) / 4 * 4)), .int ((v10 / 7) - (v10 / 7) / 5 * 5)]) (rest := []) F hI (c_L_lay l D a cI (g_inj_sub (by decide) F.2.2.1) F.2.2.2.2.2.2.2 sa N S.1 1 v11 v12 (v11 + ((v10 / 144) - (v10 / 144) / 4 * 4)) (v12 + ((v10 / 576) - (v10 / 576) / 4 * 4)) ((v10 / 7) - (v10 / 7) / 5 * 5) q_323 e_323) kh_L_lay kn_L kd_L_lay kt_L_lay km_L_132 ⟨(Nat.le_of_ble_eq_true rfl), (Nat.le_of_ble_eq_true rfl), rfl, rfl⟩ hl.1 rfl (Nat.le_of_ble_eq_true rfl) ⟨(by show _ ≤ 624708; omega), (by show _ ≤ 7227575; omega)⟩ dL_law_323 (fun H locs hI => ?_)
  have hI : g_LS A D a (lE a cI (q_323.2, S.2.1, S.2.2)) s H locs := hI
  refine lv_aload hx hb dL_law_326 (lv_at hl 6 rfl) ?_
  refine lv_iconst (v := 1) hx hb dL_law_328 (by decide) ?_
  refine lv_iload hx hb dL_law_329 (lv_at hl 12 rfl) ?_
  refine lv_iload hx hb dL_law_331 (lv_at hl 11 rfl) ?_
  refine lv_iload hx hb dL_law_333 (lv_at hl 0 rfl) ?_
  refine lv_iload hx hb dL_law_335 (lv_at hl 1 rfl) ?_
  refine lv_iload hx hb dL_law_337 (lv_at hl 10 rfl) ?_
  refine lv_bipush (v := 7) hx hb dL_law_339 (by decide) ?_
  refine lv_idiv hx hb dL_law_341 (by decide) ?_
  refine lv_iconst (v := 5) hx hb dL_law_342 (by decide) ?_
  refine lv_irem hx hb dL_law_343 (by decide) ?_
  obtain ⟨q_344, e_344, h⟩ := gBind_in h
  refine g_lcB (S := (q_323.2, S.2.1, S.2.2)) (σ' := q_344.2) (r := q_344.1) (As := [.ref (a 65), .int 1, .int v12, .int v11, .int (v12 + ((v10 / 576) - (v10 / 576) / 4 * 4)), .int (v11 + ((v10 / 144) - (v10 / 144) / 4 * 4)), .int ((v10 / 7) - (v10 / 7) / 5 * 5)]) (rest := [.int q_323.1]) F hI (c_L_lay l D (bA a) cI (g_inj_b F.2.2.1) F.2.2.2.2.2.2.2 sa N S.2.1 1 v12 v11 (v12 + ((v10 / 576) - (v10 / 576) / 4 * 4)) (v11 + ((v10 / 144) - (v10 / 144) / 4 * 4)) ((v10 / 7) - (v10 / 7) / 5 * 5) q_344 e_344) kh_L_lay kn_L kd_L_lay kt_L_lay km_L_132 ⟨(Nat.le_of_ble_eq_true rfl), (Nat.le_of_ble_eq_true rfl), rfl, rfl⟩ hl.1 rfl (Nat.le_of_ble_eq_true rfl) ⟨(by show _ ≤ 624708; omega), (by show _ ≤ 7227575; omega)⟩ dL_law_344 (fun H locs hI => ?_)
  have hI : g_LS A D a (lE a cI (q_323.2, q_344.2, S.2.2)) s H locs := hI
  obtain ⟨j355, hj355, h⟩ := gJoin1_in h
  have J355 : ∀ (w0_355 : Int32) (H : Heap) (locs : List Loc) (ls : Array Slot), j355 w0_355 = some out → g_LS A D a (lE a cI (q_323.2, q_344.2, S.2.2)) s H locs → lv_has ls 15 [(0, .ref b), (1, .int v1), (2, .int v2), (3, .ref (a 0)), (4, .ref (a 65)), (5, .ref (a 130)), (7, .int v7), (8, .int v8)] → W p l e room_1 s m #[Value.ref b] below meth c H locs (K + 10) (SL + 60) Q (F0 m 355 ls [.int w0_355]) := by
    intro w0_355 H locs ls h hI hl
    rw [hj355] at h
    refine lv_istore (lv' := [(6, .int w0_355), (0, .ref b), (1, .int v1), (2, .int v2), (3, .ref (a 0)), (4, .ref (a 65)), (5, .ref (a 130)), (7, .int v7), (8, .int v8)]) hx hb dL_law_355 hl (by decide) rfl (fun ls hl => ?_)
    refine lv_goto (tgt := 802) hx hb dL_law_357 (by decide) ?_
    refine W.widen (k := (K + 10)) (n := (SL + 60)) (by omega) (by omega) ?_
    exact JN w0_355 (q_323.2, q_344.2, S.2.2) _ _ _ h hI (lv_sub hl [1, 2, 3, 4, 5, 6, 0, 7, 8] rfl)
  refine lv_icmp_ne (tgt := 354) hx hb dL_law_347 (by decide) (fun c_347 => ?_) (fun c_347 => ?_)
  · have h := (if_neg c_347).symm.trans h
    refine lv_iconst (v := 0) hx hb dL_law_354 (by decide) ?_
    refine W.widen (k := (K + 10)) (n := (SL + 60)) (by omega) (by omega) ?_
    exact J355 _ _ _ _ h hI (lv_sub hl [2, 3, 4, 5, 6, 7, 8, 9] rfl)
  · have h := (if_pos c_347).symm.trans h
    refine lv_iconst (v := 1) hx hb dL_law_350 (by decide) ?_
    refine lv_goto (tgt := 355) hx hb dL_law_351 (by decide) ?_
    refine W.widen (k := (K + 10)) (n := (SL + 60)) (by omega) (by omega) ?_
    exact J355 _ _ _ _ h hI (lv_sub hl [2, 3, 4, 5, 6, 7, 8, 9] rfl)
def h_case3 (N : Nat) (v11 v12 : Int32) (S : lSt) (jn : Int32 → lSt → Option Int32) : Option Int32 :=
  (h_does N S.1 5 v11 v12 0).bind (fun (q_374 : Int32 × gSt) =>
  (h_does N S.2.1 5 v12 v11 0).bind (fun (q_385 : Int32 × gSt) =>
  gJoin1 (fun (w0_396 : Int32) =>
      jn w0_396 (q_374.2, q_385.2, S.2.2)) (fun j396 =>
    if q_374.1 = q_385.1 then
      j396 1
    else
      j396 0)))
set_option maxRecDepth 100000 in
set_option maxHeartbeats 8000000 in
theorem w_case3 {p : Program} {e : Env} {s : State} {m : MethodId} {below : List Frame} {meth : Method} {c : Code} {l : Launch} {b : Nat} {D : va_G} {a : Nat → Nat} {cI : ClassId} {sa : Nat → Nat} {Q : State → Prop} {A : Nat → Prop} {N : Nat} {v1 v2 v7 v8 v11 v12 : Int32} {S : lSt} {jn : Int32 → lSt → Option Int32} {out : Int32} {K SL : Nat} (F : g_LF A p l m c cL_law 15 s #[Value.ref b] D a cI sa) (hK : K + 8 ≤ 624708) (hSL : SL + 48 ≤ 7227575)
    (JN : ∀ (v6 : Int32) (S : lSt) (H : Heap) (locs : List Loc) (ls : Array Slot), jn v6 S = some out → g_LS A D a (lE a cI S) s H locs → lv_has ls 15 [(0, .ref b), (1, .int v1), (2, .int v2), (3, .ref (a 0)), (4, .ref (a 65)), (5, .ref (a 130)), (6, .int v6), (7, .int v7), (8, .int v8)] → W p l e room_1 s m #[Value.ref b] below meth c H locs (K + 8) (SL + 48) Q (F0 m 802 ls []))
    (h : h_case3 N v11 v12 S jn = some out) {H : Heap} {locs : List Loc} {ls : Array Slot} (hI : g_LS A D a (lE a cI S) s H locs) (hl : lv_has ls 15 [(0, .ref b), (1, .int v1), (2, .int v2), (3, .ref (a 0)), (4, .ref (a 65)), (5, .ref (a 130)), (7, .int v7), (8, .int v8), (11, .int v11), (12, .int v12)]) : W p l e room_1 s m #[Value.ref b] below meth c H locs K SL Q (F0 m 367 ls []) := by
  have hx := F.1.1
  have hb := F.1.2.1
  unfold h_case3 at h
  refine lv_aload_n hx hb dL_law_367 rfl (lv_at hl 3 rfl) ?_
  refine lv_iconst (v := 5) hx hb dL_law_368 (by decide) ?_
  refine lv_iload hx hb dL_law_369 (lv_at hl 8 rfl) ?_
  refine lv_iload hx hb dL_law_371 (lv_at hl 9 rfl) ?_
  refine lv_iconst (v := 0) hx hb dL_law_373 (by decide) ?_
  obtain ⟨q_374, e_374, h⟩ := gBind_in h
  refine g_lcA (S := S) (σ' := q_374.2) (r := q_374.1) (As := [.ref (a 0), .int 5, .int v11, .int v12, .int 0]) (rest := []) F hI (c_L_does l D a cI (g_inj_sub (by decide) F.2.2.1) F.2.2.2.2.2.2.2 sa N S.1 5 v11 v12 0 q_374 e_374) kh_L_does kn_L kd_L_does kt_L_does km_L_128 ⟨(Nat.le_of_ble_eq_true rfl), (Nat.le_of_ble_eq_true rfl), rfl, rfl⟩ hl.1 rfl (Nat.le_of_ble_eq_true rfl) ⟨(by show _ ≤ 624708; omega), (by show _ ≤ 7227575; omega)⟩ dL_law_374 (fun H locs hI => ?_)
  have hI : g_LS A D a (lE a cI (q_374.2, S.2.1, S.2.2)) s H locs := hI
  refine lv_aload hx hb dL_law_377 (lv_at hl 4 rfl) ?_
  refine lv_iconst (v := 5) hx hb dL_law_379 (by decide) ?_
  refine lv_iload hx hb dL_law_380 (lv_at hl 9 rfl) ?_
  refine lv_iload hx hb dL_law_382 (lv_at hl 8 rfl) ?_
  refine lv_iconst (v := 0) hx hb dL_law_384 (by decide) ?_
  obtain ⟨q_385, e_385, h⟩ := gBind_in h
  refine g_lcB (S := (q_374.2, S.2.1, S.2.2)) (σ' := q_385.2) (r := q_385.1) (As := [.ref (a 65), .int 5, .int v12, .int v11, .int 0]) (rest := [.int q_374.1]) F hI (c_L_does l D (bA a) cI (g_inj_b F.2.2.1) F.2.2.2.2.2.2.2 sa N S.2.1 5 v12 v11 0 q_385 e_385) kh_L_does kn_L kd_L_does kt_L_does km_L_128 ⟨(Nat.le_of_ble_eq_true rfl), (Nat.le_of_ble_eq_true rfl), rfl, rfl⟩ hl.1 rfl (Nat.le_of_ble_eq_true rfl) ⟨(by show _ ≤ 624708; omega), (by show _ ≤ 7227575; omega)⟩ dL_law_385 (fun H locs hI => ?_)
  have hI : g_LS A D a (lE a cI (q_374.2, q_385.2, S.2.2)) s H locs := hI
  obtain ⟨j396, hj396, h⟩ := gJoin1_in h
  have J396 : ∀ (w0_396 : Int32) (H : Heap) (locs : List Loc) (ls : Array Slot), j396 w0_396 = some out → g_LS A D a (lE a cI (q_374.2, q_385.2, S.2.2)) s H locs → lv_has ls 15 [(0, .ref b), (1, .int v1), (2, .int v2), (3, .ref (a 0)), (4, .ref (a 65)), (5, .ref (a 130)), (7, .int v7), (8, .int v8)] → W p l e room_1 s m #[Value.ref b] below meth c H locs (K + 8) (SL + 48) Q (F0 m 396 ls [.int w0_396]) := by
    intro w0_396 H locs ls h hI hl
    rw [hj396] at h
    refine lv_istore (lv' := [(6, .int w0_396), (0, .ref b), (1, .int v1), (2, .int v2), (3, .ref (a 0)), (4, .ref (a 65)), (5, .ref (a 130)), (7, .int v7), (8, .int v8)]) hx hb dL_law_396 hl (by decide) rfl (fun ls hl => ?_)
    refine lv_goto (tgt := 802) hx hb dL_law_398 (by decide) ?_
    refine W.widen (k := (K + 8)) (n := (SL + 48)) (by omega) (by omega) ?_
    exact JN w0_396 (q_374.2, q_385.2, S.2.2) _ _ _ h hI (lv_sub hl [1, 2, 3, 4, 5, 6, 0, 7, 8] rfl)
  refine lv_icmp_ne (tgt := 395) hx hb dL_law_388 (by decide) (fun c_388 => ?_) (fun c_388 => ?_)
  · have h := (if_neg c_388).symm.trans h
    refine lv_iconst (v := 0) hx hb dL_law_395 (by decide) ?_
    refine W.widen (k := (K + 8)) (n := (SL + 48)) (by omega) (by omega) ?_
    exact J396 _ _ _ _ h hI (lv_sub hl [0, 1, 2, 3, 4, 5, 6, 7] rfl)
  · have h := (if_pos c_388).symm.trans h
    refine lv_iconst (v := 1) hx hb dL_law_391 (by decide) ?_
    refine lv_goto (tgt := 396) hx hb dL_law_392 (by decide) ?_
    refine W.widen (k := (K + 8)) (n := (SL + 48)) (by omega) (by omega) ?_
    exact J396 _ _ _ _ h hI (lv_sub hl [0, 1, 2, 3, 4, 5, 6, 7] rfl)
def h_case4 (N : Nat) (v10 : Int32) (S : lSt) (jn : Int32 → lSt → Option Int32) : Option Int32 :=
  (h_does N S.1 1 (v10 - v10 / 5 * 5) ((v10 / 5) - (v10 / 5) / 8 * 8) 0).bind (fun (q_422 : Int32 × gSt) =>
  (h_does N S.2.1 1 (v10 - v10 / 5 * 5) ((v10 / 5) - (v10 / 5) / 8 * 8) 0).bind (fun (q_440 : Int32 × gSt) =>
  gJoin1 (fun (w0_451 : Int32) =>
      jn w0_451 (q_422.2, q_440.2, S.2.2)) (fun j451 =>
    if q_422.1 = q_440.1 then
      j451 1
    else
      j451 0)))
set_option maxRecDepth 100000 in
set_option maxHeartbeats 8000000 in
theorem w_case4 {p : Program} {e : Env} {s : State} {m : MethodId} {below : List Frame} {meth : Method} {c : Code} {l : Launch} {b : Nat} {D : va_G} {a : Nat → Nat} {cI : ClassId} {sa : Nat → Nat} {Q : State → Prop} {A : Nat → Prop} {N : Nat} {v1 v2 v7 v8 v10 : Int32} {S : lSt} {jn : Int32 → lSt → Option Int32} {out : Int32} {K SL : Nat} (F : g_LF A p l m c cL_law 15 s #[Value.ref b] D a cI sa) (hK : K + 8 ≤ 624708) (hSL : SL + 48 ≤ 7227575)
    (JN : ∀ (v6 : Int32) (S : lSt) (H : Heap) (locs : List Loc) (ls : Array Slot), jn v6 S = some out → g_LS A D a (lE a cI S) s H locs → lv_has ls 15 [(0, .ref b), (1, .int v1), (2, .int v2), (3, .ref (a 0)), (4, .ref (a 65)), (5, .ref (a 130)), (6, .int v6), (7, .int v7), (8, .int v8)] → W p l e room_1 s m #[Value.ref b] below meth c H locs (K + 8) (SL + 48) Q (F0 m 802 ls []))
    (h : h_case4 N v10 S jn = some out) {H : Heap} {locs : List Loc} {ls : Array Slot} (hI : g_LS A D a (lE a cI S) s H locs) (hl : lv_has ls 15 [(0, .ref b), (1, .int v1), (2, .int v2), (3, .ref (a 0)), (4, .ref (a 65)), (5, .ref (a 130)), (7, .int v7), (8, .int v8), (10, .int v10)]) : W p l e room_1 s m #[Value.ref b] below meth c H locs K SL Q (F0 m 408 ls []) := by
  have hx := F.1.1
  have hb := F.1.2.1
  unfold h_case4 at h
  refine lv_aload_n hx hb dL_law_408 rfl (lv_at hl 3 rfl) ?_
  refine lv_iconst (v := 1) hx hb dL_law_409 (by decide) ?_
  refine lv_iload hx hb dL_law_410 (lv_at hl 8 rfl) ?_
  refine lv_iconst (v := 5) hx hb dL_law_412 (by decide) ?_
  refine lv_irem hx hb dL_law_413 (by decide) ?_
  refine lv_iload hx hb dL_law_414 (lv_at hl 8 rfl) ?_
  refine lv_iconst (v := 5) hx hb dL_law_416 (by decide) ?_
  refine lv_idiv hx hb dL_law_417 (by decide) ?_
  refine lv_bipush (v := 8) hx hb dL_law_418 (by decide) ?_
  refine lv_irem hx hb dL_law_420 (by decide) ?_
  refine lv_iconst (v := 0) hx hb dL_law_421 (by decide) ?_
  obtain ⟨q_422, e_422, h⟩ := gBind_in h
  refine g_lcA (S := S) (σ' := q_422.2) (r := q_422.1) (As := [.ref (a 0), .int 1, .int (v10 - v10 / 5 * 5), .int ((v10 / 5) - (v10 / 5) / 8 * 8), .int 0]) (rest := []) F hI (c_L_does l D a cI (g_inj_sub (by decide) F.2.2.1) F.2.2.2.2.2.2.2 sa N S.1 1 (v10 - v10 / 5 * 5) ((v10 / 5) - (v10 / 5) / 8 * 8) 0 q_422 e_422) kh_L_does kn_L kd_L_does kt_L_does km_L_128 ⟨(Nat.le_of_ble_eq_true rfl), (Nat.le_of_ble_eq_true rfl), rfl, rfl⟩ hl.1 rfl (Nat.le_of_ble_eq_true rfl) ⟨(by show _ ≤ 624708; omega), (by show _ ≤ 7227575; omega)⟩ dL_law_422 (fun H locs hI => ?_)
  have hI : g_LS A D a (lE a cI (q_422.2, S.2.1, S.2.2)) s H locs := hI
  refine lv_aload hx hb dL_law_425 (lv_at hl 4 rfl) ?_
  refine lv_iconst (v := 1) hx hb dL_law_427 (by decide) ?_
  refine lv_iload hx hb dL_law_428 (lv_at hl 8 rfl) ?_
  refine lv_iconst (v := 5) hx hb dL_law_430 (by decide) ?_
  refine lv_irem hx hb dL_law_431 (by decide) ?_
  refine lv_iload hx hb dL_law_432 (lv_at hl 8 rfl) ?_
  refine lv_iconst (v := 5) hx hb dL_law_434 (by decide) ?_
  refine lv_idiv hx hb dL_law_435 (by decide) ?_
  refine lv_bipush (v := 8) hx hb dL_law_436 (by decide) ?_
  refine lv_irem hx hb dL_law_438 (by decide) ?_
  refine lv_iconst (v := 0) hx hb dL_law_439 (by decide) ?_
  obtain ⟨q_440, e_440, h⟩ := gBind_in h
  refine g_lcB (S := (q_422.2, S.2.1, S.2.2)) (σ' := q_440.2) (r := q_440.1) (As := [.ref (a 65), .int 1, .int (v10 - v10 / 5 * 5), .int ((v10 / 5) - (v10 / 5) / 8 * 8), .int 0]) (rest := [.int q_422.1]) F hI (c_L_does l D (bA a) cI (g_inj_b F.2.2.1) F.2.2.2.2.2.2.2 sa N S.2.1 1 (v10 - v10 / 5 * 5) ((v10 / 5) - (v10 / 5) / 8 * 8) 0 q_440 e_440) kh_L_does kn_L kd_L_does kt_L_does km_L_128 ⟨(Nat.le_of_ble_eq_true rfl), (Nat.le_of_ble_eq_true rfl), rfl, rfl⟩ hl.1 rfl (Nat.le_of_ble_eq_true rfl) ⟨(by show _ ≤ 624708; omega), (by show _ ≤ 7227575; omega)⟩ dL_law_440 (fun H locs hI => ?_)
  have hI : g_LS A D a (lE a cI (q_422.2, q_440.2, S.2.2)) s H locs := hI
  obtain ⟨j451, hj451, h⟩ := gJoin1_in h
  have J451 : ∀ (w0_451 : Int32) (H : Heap) (locs : List Loc) (ls : Array Slot), j451 w0_451 = some out → g_LS A D a (lE a cI (q_422.2, q_440.2, S.2.2)) s H locs → lv_has ls 15 [(0, .ref b), (1, .int v1), (2, .int v2), (3, .ref (a 0)), (4, .ref (a 65)), (5, .ref (a 130)), (7, .int v7), (8, .int v8)] → W p l e room_1 s m #[Value.ref b] below meth c H locs (K + 8) (SL + 48) Q (F0 m 451 ls [.int w0_451]) := by
    intro w0_451 H locs ls h hI hl
    rw [hj451] at h
    refine lv_istore (lv' := [(6, .int w0_451), (0, .ref b), (1, .int v1), (2, .int v2), (3, .ref (a 0)), (4, .ref (a 65)), (5, .ref (a 130)), (7, .int v7), (8, .int v8)]) hx hb dL_law_451 hl (by decide) rfl (fun ls hl => ?_)
    refine lv_goto (tgt := 802) hx hb dL_law_453 (by decide) ?_
    refine W.widen (k := (K + 8)) (n := (SL + 48)) (by omega) (by omega) ?_
    exact JN w0_451 (q_422.2, q_440.2, S.2.2) _ _ _ h hI (lv_sub hl [1, 2, 3, 4, 5, 6, 0, 7, 8] rfl)
  refine lv_icmp_ne (tgt := 450) hx hb dL_law_443 (by decide) (fun c_443 => ?_) (fun c_443 => ?_)
  · have h := (if_neg c_443).symm.trans h
    refine lv_iconst (v := 0) hx hb dL_law_450 (by decide) ?_
    refine W.widen (k := (K + 8)) (n := (SL + 48)) (by omega) (by omega) ?_
    exact J451 _ _ _ _ h hI (lv_sub hl [0, 1, 2, 3, 4, 5, 6, 7] rfl)
  · have h := (if_pos c_443).symm.trans h
    refine lv_iconst (v := 1) hx hb dL_law_446 (by decide) ?_
    refine lv_goto (tgt := 451) hx hb dL_law_447 (by decide) ?_
    refine W.widen (k := (K + 8)) (n := (SL + 48)) (by omega) (by omega) ?_
    exact J451 _ _ _ _ h hI (lv_sub hl [0, 1, 2, 3, 4, 5, 6, 7] rfl)
def h_case5 (N : Nat) (v10 : Int32) (S : lSt) (jn : Int32 → lSt → Option Int32) : Option Int32 :=
  (h_does N S.1 2 (v10 - v10 / 5 * 5) ((v10 / 5) - (v10 / 5) / 100 * 100) 0).bind (fun (q_477 : Int32 × gSt) =>
  (h_does N S.2.1 2 (v10 - v10 / 5 * 5) ((v10 / 5) - (v10 / 5) / 100 * 100) 0).bind (fun (q_495 : Int32 × gSt) =>
  gJoin1 (fun (w0_506 : Int32) =>
      jn w0_506 (q_477.2, q_495.2, S.2.2)) (fun j506 =>
    if q_477.1 = q_495.1 then
      j506 1
    else
      j506 0)))
set_option maxRecDepth 100000 in
set_option maxHeartbeats 8000000 in
theorem w_case5 {p : Program} {e : Env} {s : State} {m : MethodId} {below : List Frame} {meth : Method} {c : Code} {l : Launch} {b : Nat} {D : va_G} {a : Nat → Nat} {cI : ClassId} {sa : Nat → Nat} {Q : State → Prop} {A : Nat → Prop} {N : Nat} {v1 v2 v7 v8 v10 : Int32} {S : lSt} {jn : Int32 → lSt → Option Int32} {out : Int32} {K SL : Nat} (F : g_LF A p l m c cL_law 15 s #[Value.ref b] D a cI sa) (hK : K + 8 ≤ 624708) (hSL : SL + 48 ≤ 7227575)
    (JN : ∀ (v6 : Int32) (S : lSt) (H : Heap) (locs : List Loc) (ls : Array Slot), jn v6 S = some out → g_LS A D a (lE a cI S) s H locs → lv_has ls 15 [(0, .ref b), (1, .int v1), (2, .int v2), (3, .ref (a 0)), (4, .ref (a 65)), (5, .ref (a 130)), (6, .int v6), (7, .int v7), (8, .int v8)] → W p l e room_1 s m #[Value.ref b] below meth c H locs (K + 8) (SL + 48) Q (F0 m 802 ls []))
    (h : h_case5 N v10 S jn = some out) {H : Heap} {locs : List Loc} {ls : Array Slot} (hI : g_LS A D a (lE a cI S) s H locs) (hl : lv_has ls 15 [(0, .ref b), (1, .int v1), (2, .int v2), (3, .ref (a 0)), (4, .ref (a 65)), (5, .ref (a 130)), (7, .int v7), (8, .int v8), (10, .int v10)]) : W p l e room_1 s m #[Value.ref b] below meth c H locs K SL Q (F0 m 463 ls []) := by
  have hx := F.1.1
  have hb := F.1.2.1
  unfold h_case5 at h
  refine lv_aload_n hx hb dL_law_463 rfl (lv_at hl 3 rfl) ?_
  refine lv_iconst (v := 2) hx hb dL_law_464 (by decide) ?_
  refine lv_iload hx hb dL_law_465 (lv_at hl 8 rfl) ?_
  refine lv_iconst (v := 5) hx hb dL_law_467 (by decide) ?_
  refine lv_irem hx hb dL_law_468 (by decide) ?_
  refine lv_iload hx hb dL_law_469 (lv_at hl 8 rfl) ?_
  refine lv_iconst (v := 5) hx hb dL_law_471 (by decide) ?_
  refine lv_idiv hx hb dL_law_472 (by decide) ?_
  refine lv_bipush (v := 100) hx hb dL_law_473 (by decide) ?_
  refine lv_irem hx hb dL_law_475 (by decide) ?_
  refine lv_iconst (v := 0) hx hb dL_law_476 (by decide) ?_
  obtain ⟨q_477, e_477, h⟩ := gBind_in h
  refine g_lcA (S := S) (σ' := q_477.2) (r := q_477.1) (As := [.ref (a 0), .int 2, .int (v10 - v10 / 5 * 5), .int ((v10 / 5) - (v10 / 5) / 100 * 100), .int 0]) (rest := []) F hI (c_L_does l D a cI (g_inj_sub (by decide) F.2.2.1) F.2.2.2.2.2.2.2 sa N S.1 2 (v10 - v10 / 5 * 5) ((v10 / 5) - (v10 / 5) / 100 * 100) 0 q_477 e_477) kh_L_does kn_L kd_L_does kt_L_does km_L_128 ⟨(Nat.le_of_ble_eq_true rfl), (Nat.le_of_ble_eq_true rfl), rfl, rfl⟩ hl.1 rfl (Nat.le_of_ble_eq_true rfl) ⟨(by show _ ≤ 624708; omega), (by show _ ≤ 7227575; omega)⟩ dL_law_477 (fun H locs hI => ?_)
  have hI : g_LS A D a (lE a cI (q_477.2, S.2.1, S.2.2)) s H locs := hI
  refine lv_aload hx hb dL_law_480 (lv_at hl 4 rfl) ?_
  refine lv_iconst (v := 2) hx hb dL_law_482 (by decide) ?_
  refine lv_iload hx hb dL_law_483 (lv_at hl 8 rfl) ?_
  refine lv_iconst (v := 5) hx hb dL_law_485 (by decide) ?_
  refine lv_irem hx hb dL_law_486 (by decide) ?_
  refine lv_iload hx hb dL_law_487 (lv_at hl 8 rfl) ?_
  refine lv_iconst (v := 5) hx hb dL_law_489 (by decide) ?_
  refine lv_idiv hx hb dL_law_490 (by decide) ?_
  refine lv_bipush (v := 100) hx hb dL_law_491 (by decide) ?_
  refine lv_irem hx hb dL_law_493 (by decide) ?_
  refine lv_iconst (v := 0) hx hb dL_law_494 (by decide) ?_
  obtain ⟨q_495, e_495, h⟩ := gBind_in h
  refine g_lcB (S := (q_477.2, S.2.1, S.2.2)) (σ' := q_495.2) (r := q_495.1) (As := [.ref (a 65), .int 2, .int (v10 - v10 / 5 * 5), .int ((v10 / 5) - (v10 / 5) / 100 * 100), .int 0]) (rest := [.int q_477.1]) F hI (c_L_does l D (bA a) cI (g_inj_b F.2.2.1) F.2.2.2.2.2.2.2 sa N S.2.1 2 (v10 - v10 / 5 * 5) ((v10 / 5) - (v10 / 5) / 100 * 100) 0 q_495 e_495) kh_L_does kn_L kd_L_does kt_L_does km_L_128 ⟨(Nat.le_of_ble_eq_true rfl), (Nat.le_of_ble_eq_true rfl), rfl, rfl⟩ hl.1 rfl (Nat.le_of_ble_eq_true rfl) ⟨(by show _ ≤ 624708; omega), (by show _ ≤ 7227575; omega)⟩ dL_law_495 (fun H locs hI => ?_)
  have hI : g_LS A D a (lE a cI (q_477.2, q_495.2, S.2.2)) s H locs := hI
  obtain ⟨j506, hj506, h⟩ := gJoin1_in h
  have J506 : ∀ (w0_506 : Int32) (H : Heap) (locs : List Loc) (ls : Array Slot), j506 w0_506 = some out → g_LS A D a (lE a cI (q_477.2, q_495.2, S.2.2)) s H locs → lv_has ls 15 [(0, .ref b), (1, .int v1), (2, .int v2), (3, .ref (a 0)), (4, .ref (a 65)), (5, .ref (a 130)), (7, .int v7), (8, .int v8)] → W p l e room_1 s m #[Value.ref b] below meth c H locs (K + 8) (SL + 48) Q (F0 m 506 ls [.int w0_506]) := by
    intro w0_506 H locs ls h hI hl
    rw [hj506] at h
    refine lv_istore (lv' := [(6, .int w0_506), (0, .ref b), (1, .int v1), (2, .int v2), (3, .ref (a 0)), (4, .ref (a 65)), (5, .ref (a 130)), (7, .int v7), (8, .int v8)]) hx hb dL_law_506 hl (by decide) rfl (fun ls hl => ?_)
    refine lv_goto (tgt := 802) hx hb dL_law_508 (by decide) ?_
    refine W.widen (k := (K + 8)) (n := (SL + 48)) (by omega) (by omega) ?_
    exact JN w0_506 (q_477.2, q_495.2, S.2.2) _ _ _ h hI (lv_sub hl [1, 2, 3, 4, 5, 6, 0, 7, 8] rfl)
  refine lv_icmp_ne (tgt := 505) hx hb dL_law_498 (by decide) (fun c_498 => ?_) (fun c_498 => ?_)
  · have h := (if_neg c_498).symm.trans h
    refine lv_iconst (v := 0) hx hb dL_law_505 (by decide) ?_
    refine W.widen (k := (K + 8)) (n := (SL + 48)) (by omega) (by omega) ?_
    exact J506 _ _ _ _ h hI (lv_sub hl [0, 1, 2, 3, 4, 5, 6, 7] rfl)
  · have h := (if_pos c_498).symm.trans h
    refine lv_iconst (v := 1) hx hb dL_law_501 (by decide) ?_
    refine lv_goto (tgt := 506) hx hb dL_law_502 (by decide) ?_
    refine W.widen (k := (K + 8)) (n := (SL + 48)) (by omega) (by omega) ?_
    exact J506 _ _ _ _ h hI (lv_sub hl [0, 1, 2, 3, 4, 5, 6, 7] rfl)
def h_case6 (N : Nat) (v10 : Int32) (S : lSt) (jn : Int32 → lSt → Option Int32) : Option Int32 :=
  (h_does N S.1 3 (v10 - v10 / 5 * 5) ((v10 / 5) - (v10 / 5) / 3 * 3) 0).bind (fun (q_531 : Int32 × gSt) =>
  gJoin1 (fun (w0_551 : Int32) =>
      (h_does N S.2.1 3 (v10 - v10 / 5 * 5) ((v10 / 5) - (v10 / 5) / 3 * 3) 0).bind (fun (q_567 : Int32 × gSt) =>
      gJoin1 (fun (w0_580 : Int32) =>
          jn w0_580 (q_531.2, q_567.2, upd S.2.2 0 ((S.2.2 0) + w0_551))) (fun j580 =>
        if q_567.1 = q_531.1 then
          j580 1
        else
          j580 0))) (fun j551 =>
    if q_531.1 < 0 then
      j551 0
    else
      j551 1))
set_option maxRecDepth 100000 in
set_option maxHeartbeats 8000000 in
theorem w_case6 {p : Program} {e : Env} {s : State} {m : MethodId} {below : List Frame} {meth : Method} {c : Code} {l : Launch} {b : Nat} {D : va_G} {a : Nat → Nat} {cI : ClassId} {sa : Nat → Nat} {Q : State → Prop} {A : Nat → Prop} {N : Nat} {v1 v2 v7 v8 v10 : Int32} {S : lSt} {jn : Int32 → lSt → Option Int32} {out : Int32} {K SL : Nat} (F : g_LF A p l m c cL_law 15 s #[Value.ref b] D a cI sa) (hK : K + 8 ≤ 624708) (hSL : SL + 48 ≤ 7227575)
    (JN : ∀ (v6 : Int32) (S : lSt) (H : Heap) (locs : List Loc) (ls : Array Slot), jn v6 S = some out → g_LS A D a (lE a cI S) s H locs → lv_has ls 15 [(0, .ref b), (1, .int v1), (2, .int v2), (3, .ref (a 0)), (4, .ref (a 65)), (5, .ref (a 130)), (6, .int v6), (7, .int v7), (8, .int v8)] → W p l e room_1 s m #[Value.ref b] below meth c H locs (K + 8) (SL + 48) Q (F0 m 802 ls []))
    (h : h_case6 N v10 S jn = some out) {H : Heap} {locs : List Loc} {ls : Array Slot} (hI : g_LS A D a (lE a cI S) s H locs) (hl : lv_has ls 15 [(0, .ref b), (1, .int v1), (2, .int v2), (3, .ref (a 0)), (4, .ref (a 65)), (5, .ref (a 130)), (7, .int v7), (8, .int v8), (10, .int v10)]) : W p l e room_1 s m #[Value.ref b] below meth c H locs K SL Q (F0 m 518 ls []) := by
  have hx := F.1.1
  have hb := F.1.2.1
  unfold h_case6 at h
  refine lv_aload_n hx hb dL_law_518 rfl (lv_at hl 3 rfl) ?_
  refine lv_iconst (v := 3) hx hb dL_law_519 (by decide) ?_
  refine lv_iload hx hb dL_law_520 (lv_at hl 8 rfl) ?_
  refine lv_iconst (v := 5) hx hb dL_law_522 (by decide) ?_
  refine lv_irem hx hb dL_law_523 (by decide) ?_
  refine lv_iload hx hb dL_law_524 (lv_at hl 8 rfl) ?_
  refine lv_iconst (v := 5) hx hb dL_law_526 (by decide) ?_
  refine lv_idiv hx hb dL_law_527 (by decide) ?_
  refine lv_iconst (v := 3) hx hb dL_law_528 (by decide) ?_
  refine lv_irem hx hb dL_law_529 (by decide) ?_
  refine lv_iconst (v := 0) hx hb dL_law_530 (by decide) ?_
  obtain ⟨q_531, e_531, h⟩ := gBind_in h
  refine g_lcA (S := S) (σ' := q_531.2) (r := q_531.1) (As := [.ref (a 0), .int 3, .int (v10 - v10 / 5 * 5), .int ((v10 / 5) - (v10 / 5) / 3 * 3), .int 0]) (rest := []) F hI (c_L_does l D a cI (g_inj_sub (by decide) F.2.2.1) F.2.2.2.2.2.2.2 sa N S.1 3 (v10 - v10 / 5 * 5) ((v10 / 5) - (v10 / 5) / 3 * 3) 0 q_531 e_531) kh_L_does kn_L kd_L_does kt_L_does km_L_128 ⟨(Nat.le_of_ble_eq_true rfl), (Nat.le_of_ble_eq_true rfl), rfl, rfl⟩ hl.1 rfl (Nat.le_of_ble_eq_true rfl) ⟨(by show _ ≤ 624708; omega), (by show _ ≤ 7227575; omega)⟩ dL_law_531 (fun H locs hI => ?_)
  have hI : g_LS A D a (lE a cI (q_531.2, S.2.1, S.2.2)) s H locs := hI
  refine lv_istore (lv' := [(13, .int q_531.1), (0, .ref b), (1, .int v1), (2, .int v2), (3, .ref (a 0)), (4, .ref (a 65)), (5, .ref (a 130)), (7, .int v7), (8, .int v8), (10, .int v10)]) hx hb dL_law_534 hl (by decide) rfl (fun ls hl => ?_)
  refine lv_aload hx hb dL_law_536 (lv_at hl 6 rfl) ?_
  refine lv_iconst (v := 0) hx hb dL_law_538 (by decide) ?_
  refine lv_dup2_11 hx hb dL_law_539 rfl rfl ?_
  refine g_lald F hI dL_law_540 ?_
  refine lv_iload hx hb dL_law_541 (lv_at hl 0 rfl) ?_
  obtain ⟨j551, hj551, h⟩ := gJoin1_in h
  have J551 : ∀ (w0_551 : Int32) (H : Heap) (locs : List Loc) (ls : Array Slot), j551 w0_551 = some out → g_LS A D a (lE a cI (q_531.2, S.2.1, S.2.2)) s H locs → lv_has ls 15 [(0, .ref b), (1, .int v1), (2, .int v2), (3, .ref (a 0)), (4, .ref (a 65)), (5, .ref (a 130)), (7, .int v7), (8, .int v8), (10, .int v10), (13, .int q_531.1)] → W p l e room_1 s m #[Value.ref b] below meth c H locs (K + 4) (SL + 24) Q (F0 m 551 ls [.int w0_551, .int (S.2.2 0), .int 0, .ref (a 130)]) := by
    intro w0_551 H locs ls h hI hl
    rw [hj551] at h
    refine lv_iadd hx hb dL_law_551 ?_
    refine g_last (x := (S.2.2 0) + w0_551) (S := (q_531.2, S.2.1, S.2.2)) F hI dL_law_552 (fun H locs hI => ?_)
    have hI : g_LS A D a (lE a cI (q_531.2, S.2.1, upd S.2.2 0 ((S.2.2 0) + w0_551))) s H locs := hI
    refine lv_aload hx hb dL_law_553 (lv_at hl 4 rfl) ?_
    refine lv_iconst (v := 3) hx hb dL_law_555 (by decide) ?_
    refine lv_iload hx hb dL_law_556 (lv_at hl 8 rfl) ?_
    refine lv_iconst (v := 5) hx hb dL_law_558 (by decide) ?_
    refine lv_irem hx hb dL_law_559 (by decide) ?_
    refine lv_iload hx hb dL_law_560 (lv_at hl 8 rfl) ?_
    refine lv_iconst (v := 5) hx hb dL_law_562 (by decide) ?_
    refine lv_idiv hx hb dL_law_563 (by decide) ?_
    refine lv_iconst (v := 3) hx hb dL_law_564 (by decide) ?_
    refine lv_irem hx hb dL_law_565 (by decide) ?_
    refine lv_iconst (v := 0) hx hb dL_law_566 (by decide) ?_
    obtain ⟨q_567, e_567, h⟩ := gBind_in h
    refine g_lcB (S := (q_531.2, S.2.1, upd S.2.2 0 ((S.2.2 0) + w0_551))) (σ' := q_567.2) (r := q_567.1) (As := [.ref (a 65), .int 3, .int (v10 - v10 / 5 * 5), .int ((v10 / 5) - (v10 / 5) / 3 * 3), .int 0]) (rest := []) F hI (c_L_does l D (bA a) cI (g_inj_b F.2.2.1) F.2.2.2.2.2.2.2 sa N S.2.1 3 (v10 - v10 / 5 * 5) ((v10 / 5) - (v10 / 5) / 3 * 3) 0 q_567 e_567) kh_L_does kn_L kd_L_does kt_L_does km_L_128 ⟨(Nat.le_of_ble_eq_true rfl), (Nat.le_of_ble_eq_true rfl), rfl, rfl⟩ hl.1 rfl (Nat.le_of_ble_eq_true rfl) ⟨(by show _ ≤ 624708; omega), (by show _ ≤ 7227575; omega)⟩ dL_law_567 (fun H locs hI => ?_)
    have hI : g_LS A D a (lE a cI (q_531.2, q_567.2, upd S.2.2 0 ((S.2.2 0) + w0_551))) s H locs := hI
    refine lv_iload hx hb dL_law_570 (lv_at hl 9 rfl) ?_
    obtain ⟨j580, hj580, h⟩ := gJoin1_in h
    have J580 : ∀ (w0_580 : Int32) (H : Heap) (locs : List Loc) (ls : Array Slot), j580 w0_580 = some out → g_LS A D a (lE a cI (q_531.2, q_567.2, upd S.2.2 0 ((S.2.2 0) + w0_551))) s H locs → lv_has ls 15 [(0, .ref b), (1, .int v1), (2, .int v2), (3, .ref (a 0)), (4, .ref (a 65)), (5, .ref (a 130)), (7, .int v7), (8, .int v8)] → W p l e room_1 s m #[Value.ref b] below meth c H locs (K + 8) (SL + 48) Q (F0 m 580 ls [.int w0_580]) := by
      intro w0_580 H locs ls h hI hl
      rw [hj580] at h
      refine lv_istore (lv' := [(6, .int w0_580), (0, .ref b), (1, .int v1), (2, .int v2), (3, .ref (a 0)), (4, .ref (a 65)), (5, .ref (a 130)), (7, .int v7), (8, .int v8)]) hx hb dL_law_580 hl (by decide) rfl (fun ls hl => ?_)
      refine lv_goto (tgt := 802) hx hb dL_law_582 (by decide) ?_
      refine W.widen (k := (K + 8)) (n := (SL + 48)) (by omega) (by omega) ?_
      exact JN w0_580 (q_531.2, q_567.2, upd S.2.2 0 ((S.2.2 0) + w0_551)) _ _ _ h hI (lv_sub hl [1, 2, 3, 4, 5, 6, 0, 7, 8] rfl)
    refine lv_icmp_ne (tgt := 579) hx hb dL_law_572 (by decide) (fun c_572 => ?_) (fun c_572 => ?_)
    · have h := (if_neg c_572).symm.trans h
      refine lv_iconst (v := 0) hx hb dL_law_579 (by decide) ?_
      refine W.widen (k := (K + 8)) (n := (SL + 48)) (by omega) (by omega) ?_
      exact J580 _ _ _ _ h hI (lv_sub hl [0, 1, 2, 3, 4, 5, 6, 7] rfl)
    · have h := (if_pos c_572).symm.trans h
      refine lv_iconst (v := 1) hx hb dL_law_575 (by decide) ?_
      refine lv_goto (tgt := 580) hx hb dL_law_576 (by decide) ?_
      refine W.widen (k := (K + 8)) (n := (SL + 48)) (by omega) (by omega) ?_
      exact J580 _ _ _ _ h hI (lv_sub hl [0, 1, 2, 3, 4, 5, 6, 7] rfl)
  refine lv_if_lt (tgt := 550) hx hb dL_law_543 (by decide) (fun c_543 => ?_) (fun c_543 => ?_)
  · have h := (if_pos c_543).symm.trans h
    refine lv_iconst (v := 0) hx hb dL_law_550 (by decide) ?_
    refine W.widen (k := (K + 4)) (n := (SL + 24)) (by omega) (by omega) ?_
    exact J551 _ _ _ _ h hI (lv_sub hl [1, 2, 3, 4, 5, 6, 7, 8, 9, 0] rfl)
  · have h := (if_neg c_543).symm.trans h
    refine lv_iconst (v := 1) hx hb dL_law_546 (by decide) ?_
    refine lv_goto (tgt := 551) hx hb dL_law_547 (by decide) ?_
    refine W.widen (k := (K + 4)) (n := (SL + 24)) (by omega) (by omega) ?_
    exact J551 _ _ _ _ h hI (lv_sub hl [1, 2, 3, 4, 5, 6, 7, 8, 9, 0] rfl)
def h_case7 (N : Nat) (v10 : Int32) (S : lSt) (jn : Int32 → lSt → Option Int32) : Option Int32 :=
  (h_does N S.1 4 ((v10 / 10) - (v10 / 10) / 7875 * 7875) (1 + (v10 - v10 / 10 * 10)) 0).bind (fun (q_611 : Int32 × gSt) =>
  (h_does N S.2.1 4 ((v10 / 10) - (v10 / 10) / 7875 * 7875) (1 + (v10 - v10 / 10 * 10)) 0).bind (fun (q_634 : Int32 × gSt) =>
  gJoin1 (fun (w0_645 : Int32) =>
      jn w0_645 (q_611.2, q_634.2, S.2.2)) (fun j645 =>
    if q_611.1 = q_634.1 then
      j645 1
    else
      j645 0)))
set_option maxRecDepth 100000 in
set_option maxHeartbeats 8000000 in
theorem w_case7 {p : Program} {e : Env} {s : State} {m : MethodId} {below : List Frame} {meth : Method} {c : Code} {l : Launch} {b : Nat} {D : va_G} {a : Nat → Nat} {cI : ClassId} {sa : Nat → Nat} {Q : State → Prop} {A : Nat → Prop} {N : Nat} {v1 v2 v7 v8 v10 : Int32} {S : lSt} {jn : Int32 → lSt → Option Int32} {out : Int32} {K SL : Nat} (F : g_LF A p l m c cL_law 15 s #[Value.ref b] D a cI sa) (hK : K + 8 ≤ 624708) (hSL : SL + 48 ≤ 7227575)
    (JN : ∀ (v6 : Int32) (S : lSt) (H : Heap) (locs : List Loc) (ls : Array Slot), jn v6 S = some out → g_LS A D a (lE a cI S) s H locs → lv_has ls 15 [(0, .ref b), (1, .int v1), (2, .int v2), (3, .ref (a 0)), (4, .ref (a 65)), (5, .ref (a 130)), (6, .int v6), (7, .int v7), (8, .int v8)] → W p l e room_1 s m #[Value.ref b] below meth c H locs (K + 8) (SL + 48) Q (F0 m 802 ls []))
    (h : h_case7 N v10 S jn = some out) {H : Heap} {locs : List Loc} {ls : Array Slot} (hI : g_LS A D a (lE a cI S) s H locs) (hl : lv_has ls 15 [(0, .ref b), (1, .int v1), (2, .int v2), (3, .ref (a 0)), (4, .ref (a 65)), (5, .ref (a 130)), (7, .int v7), (8, .int v8), (10, .int v10)]) : W p l e room_1 s m #[Value.ref b] below meth c H locs K SL Q (F0 m 592 ls []) := by
  have hx := F.1.1
  have hb := F.1.2.1
  unfold h_case7 at h
  refine lv_aload_n hx hb dL_law_592 rfl (lv_at hl 3 rfl) ?_
  refine lv_iconst (v := 4) hx hb dL_law_593 (by decide) ?_
  refine lv_iload hx hb dL_law_594 (lv_at hl 8 rfl) ?_
  refine lv_bipush (v := 10) hx hb dL_law_596 (by decide) ?_
  refine lv_idiv hx hb dL_law_598 (by decide) ?_
  refine lv_sipush (v := 7875) hx hb dL_law_599 (by decide) ?_
  refine lv_irem hx hb dL_law_602 (by decide) ?_
  refine lv_iconst (v := 1) hx hb dL_law_603 (by decide) ?_
  refine lv_iload hx hb dL_law_604 (lv_at hl 8 rfl) ?_
  refine lv_bipush (v := 10) hx hb dL_law_606 (by decide) ?_
  refine lv_irem hx hb dL_law_608 (by decide) ?_
  refine lv_iadd hx hb dL_law_609 ?_
  refine lv_iconst (v := 0) hx hb dL_law_610 (by decide) ?_
  obtain ⟨q_611, e_611, h⟩ := gBind_in h
  refine g_lcA (S := S) (σ' := q_611.2) (r := q_611.1) (As := [.ref (a 0), .int 4, .int ((v10 / 10) - (v10 / 10) / 7875 * 7875), .int (1 + (v10 - v10 / 10 * 10)), .int 0]) (rest := []) F hI (c_L_does l D a cI (g_inj_sub (by decide) F.2.2.1) F.2.2.2.2.2.2.2 sa N S.1 4 ((v10 / 10) - (v10 / 10) / 7875 * 7875) (1 + (v10 - v10 / 10 * 10)) 0 q_611 e_611) kh_L_does kn_L kd_L_does kt_L_does km_L_128 ⟨(Nat.le_of_ble_eq_true rfl), (Nat.le_of_ble_eq_true rfl), rfl, rfl⟩ hl.1 rfl (Nat.le_of_ble_eq_true rfl) ⟨(by show _ ≤ 624708; omega), (by show _ ≤ 7227575; omega)⟩ dL_law_611 (fun H locs hI => ?_)
  have hI : g_LS A D a (lE a cI (q_611.2, S.2.1, S.2.2)) s H locs := hI
  refine lv_aload hx hb dL_law_614 (lv_at hl 4 rfl) ?_
  refine lv_iconst (v := 4) hx hb dL_law_616 (by decide) ?_
  refine lv_iload hx hb dL_law_617 (lv_at hl 8 rfl) ?_
  refine lv_bipush (v := 10) hx hb dL_law_619 (by decide) ?_
  refine lv_idiv hx hb dL_law_621 (by decide) ?_
  refine lv_sipush (v := 7875) hx hb dL_law_622 (by decide) ?_
  refine lv_irem hx hb dL_law_625 (by decide) ?_
  refine lv_iconst (v := 1) hx hb dL_law_626 (by decide) ?_
  refine lv_iload hx hb dL_law_627 (lv_at hl 8 rfl) ?_
  refine lv_bipush (v := 10) hx hb dL_law_629 (by decide) ?_
  refine lv_irem hx hb dL_law_631 (by decide) ?_
  refine lv_iadd hx hb dL_law_632 ?_
  refine lv_iconst (v := 0) hx hb dL_law_633 (by decide) ?_
  obtain ⟨q_634, e_634, h⟩ := gBind_in h
  refine g_lcB (S := (q_611.2, S.2.1, S.2.2)) (σ' := q_634.2) (r := q_634.1) (As := [.ref (a 65), .int 4, .int ((v10 / 10) - (v10 / 10) / 7875 * 7875), .int (1 + (v10 - v10 / 10 * 10)), .int 0]) (rest := [.int q_611.1]) F hI (c_L_does l D (bA a) cI (g_inj_b F.2.2.1) F.2.2.2.2.2.2.2 sa N S.2.1 4 ((v10 / 10) - (v10 / 10) / 7875 * 7875) (1 + (v10 - v10 / 10 * 10)) 0 q_634 e_634) kh_L_does kn_L kd_L_does kt_L_does km_L_128 ⟨(Nat.le_of_ble_eq_true rfl), (Nat.le_of_ble_eq_true rfl), rfl, rfl⟩ hl.1 rfl (Nat.le_of_ble_eq_true rfl) ⟨(by show _ ≤ 624708; omega), (by show _ ≤ 7227575; omega)⟩ dL_law_634 (fun H locs hI => ?_)
  have hI : g_LS A D a (lE a cI (q_611.2, q_634.2, S.2.2)) s H locs := hI
  obtain ⟨j645, hj645, h⟩ := gJoin1_in h
  have J645 : ∀ (w0_645 : Int32) (H : Heap) (locs : List Loc) (ls : Array Slot), j645 w0_645 = some out → g_LS A D a (lE a cI (q_611.2, q_634.2, S.2.2)) s H locs → lv_has ls 15 [(0, .ref b), (1, .int v1), (2, .int v2), (3, .ref (a 0)), (4, .ref (a 65)), (5, .ref (a 130)), (7, .int v7), (8, .int v8)] → W p l e room_1 s m #[Value.ref b] below meth c H locs (K + 8) (SL + 48) Q (F0 m 645 ls [.int w0_645]) := by
    intro w0_645 H locs ls h hI hl
    rw [hj645] at h
    refine lv_istore (lv' := [(6, .int w0_645), (0, .ref b), (1, .int v1), (2, .int v2), (3, .ref (a 0)), (4, .ref (a 65)), (5, .ref (a 130)), (7, .int v7), (8, .int v8)]) hx hb dL_law_645 hl (by decide) rfl (fun ls hl => ?_)
    refine lv_goto (tgt := 802) hx hb dL_law_647 (by decide) ?_
    refine W.widen (k := (K + 8)) (n := (SL + 48)) (by omega) (by omega) ?_
    exact JN w0_645 (q_611.2, q_634.2, S.2.2) _ _ _ h hI (lv_sub hl [1, 2, 3, 4, 5, 6, 0, 7, 8] rfl)
  refine lv_icmp_ne (tgt := 644) hx hb dL_law_637 (by decide) (fun c_637 => ?_) (fun c_637 => ?_)
  · have h := (if_neg c_637).symm.trans h
    refine lv_iconst (v := 0) hx hb dL_law_644 (by decide) ?_
    refine W.widen (k := (K + 8)) (n := (SL + 48)) (by omega) (by omega) ?_
    exact J645 _ _ _ _ h hI (lv_sub hl [0, 1, 2, 3, 4, 5, 6, 7] rfl)
  · have h := (if_pos c_637).symm.trans h
    refine lv_iconst (v := 1) hx hb dL_law_640 (by decide) ?_
    refine lv_goto (tgt := 645) hx hb dL_law_641 (by decide) ?_
    refine W.widen (k := (K + 8)) (n := (SL + 48)) (by omega) (by omega) ?_
    exact J645 _ _ _ _ h hI (lv_sub hl [0, 1, 2, 3, 4, 5, 6, 7] rfl)
def h_case8 (N : Nat) (v10 : Int32) (S : lSt) (jn : Int32 → lSt → Option Int32) : Option Int32 :=
  gJoin1 (fun (w0_678 : Int32) =>
      (h_fail N S.1 (v10 - v10 / 8 * 8) w0_678).bind (fun (q_678 : Int32 × gSt) =>
      gJoin1 (fun (w0_703 : Int32) =>
          (h_fail N S.2.1 (v10 - v10 / 8 * 8) w0_703).bind (fun (q_703 : Int32 × gSt) =>
          gJoin1 (fun (w0_714 : Int32) =>
              jn w0_714 (q_678.2, q_703.2, S.2.2)) (fun j714 =>
            if q_678.1 = q_703.1 then
              j714 1
            else
              j714 0))) (fun j703 =>
        if (v10 / 8) - (v10 / 8) / 2 * 2 = 0 then
          j703 1
        else
          j703 0))) (fun j678 =>
    if (v10 / 8) - (v10 / 8) / 2 * 2 = 0 then
      j678 1
    else
      j678 0)
set_option maxRecDepth 100000 in
set_option maxHeartbeats 8000000 in
theorem w_case8 {p : Program} {e : Env} {s : State} {m : MethodId} {below : List Frame} {meth : Method} {c : Code} {l : Launch} {b : Nat} {D : va_G} {a : Nat → Nat} {cI : ClassId} {sa : Nat → Nat} {Q : State → Prop} {A : Nat → Prop} {N : Nat} {v1 v2 v7 v8 v10 : Int32} {S : lSt} {jn : Int32 → lSt → Option Int32} {out : Int32} {K SL : Nat} (F : g_LF A p l m c cL_law 15 s #[Value.ref b] D a cI sa) (hK : K + 4 ≤ 624708) (hSL : SL + 24 ≤ 7227575)
    (JN : ∀ (v6 : Int32) (S : lSt) (H : Heap) (locs : List Loc) (ls : Array Slot), jn v6 S = some out → g_LS A D a (lE a cI S) s H locs → lv_has ls 15 [(0, .ref b), (1, .int v1), (2, .int v2), (3, .ref (a 0)), (4, .ref (a 65)), (5, .ref (a 130)), (6, .int v6), (7, .int v7), (8, .int v8)] → W p l e room_1 s m #[Value.ref b] below meth c H locs (K + 4) (SL + 24) Q (F0 m 802 ls []))
    (h : h_case8 N v10 S jn = some out) {H : Heap} {locs : List Loc} {ls : Array Slot} (hI : g_LS A D a (lE a cI S) s H locs) (hl : lv_has ls 15 [(0, .ref b), (1, .int v1), (2, .int v2), (3, .ref (a 0)), (4, .ref (a 65)), (5, .ref (a 130)), (7, .int v7), (8, .int v8), (10, .int v10)]) : W p l e room_1 s m #[Value.ref b] below meth c H locs K SL Q (F0 m 657 ls []) := by
  have hx := F.1.1
  have hb := F.1.2.1
  unfold h_case8 at h
  refine lv_aload_n hx hb dL_law_657 rfl (lv_at hl 3 rfl) ?_
  refine lv_iload hx hb dL_law_658 (lv_at hl 8 rfl) ?_
  refine lv_bipush (v := 8) hx hb dL_law_660 (by decide) ?_
  refine lv_irem hx hb dL_law_662 (by decide) ?_
  refine lv_iload hx hb dL_law_663 (lv_at hl 8 rfl) ?_
  refine lv_bipush (v := 8) hx hb dL_law_665 (by decide) ?_
  refine lv_idiv hx hb dL_law_667 (by decide) ?_
  refine lv_iconst (v := 2) hx hb dL_law_668 (by decide) ?_
  refine lv_irem hx hb dL_law_669 (by decide) ?_
  obtain ⟨j678, hj678, h⟩ := gJoin1_in h
  have J678 : ∀ (w0_678 : Int32) (H : Heap) (locs : List Loc) (ls : Array Slot), j678 w0_678 = some out → g_LS A D a (lE a cI S) s H locs → lv_has ls 15 [(0, .ref b), (1, .int v1), (2, .int v2), (3, .ref (a 0)), (4, .ref (a 65)), (5, .ref (a 130)), (7, .int v7), (8, .int v8), (10, .int v10)] → W p l e room_1 s m #[Value.ref b] below meth c H locs (K + 0) (SL + 0) Q (F0 m 678 ls [.int w0_678, .int (v10 - v10 / 8 * 8), .ref (a 0)]) := by
    intro w0_678 H locs ls h hI hl
    rw [hj678] at h
    obtain ⟨q_678, e_678, h⟩ := gBind_in h
    refine g_lcA (S := S) (σ' := q_678.2) (r := q_678.1) (As := [.ref (a 0), .int (v10 - v10 / 8 * 8), .int w0_678]) (rest := []) F hI (c_L_fail l D a cI (g_inj_sub (by decide) F.2.2.1) F.2.2.2.2.2.2.2 sa N S.1 (v10 - v10 / 8 * 8) w0_678 q_678 e_678) kh_L_fail kn_L kd_L_fail kt_L_fail km_L_136 ⟨(Nat.le_of_ble_eq_true rfl), (Nat.le_of_ble_eq_true rfl), rfl, rfl⟩ hl.1 rfl (Nat.le_of_ble_eq_true rfl) ⟨(by show _ ≤ 624708; omega), (by show _ ≤ 7227575; omega)⟩ dL_law_678 (fun H locs hI => ?_)
    have hI : g_LS A D a (lE a cI (q_678.2, S.2.1, S.2.2)) s H locs := hI
    refine lv_aload hx hb dL_law_681 (lv_at hl 4 rfl) ?_
    refine lv_iload hx hb dL_law_683 (lv_at hl 8 rfl) ?_
    refine lv_bipush (v := 8) hx hb dL_law_685 (by decide) ?_
    refine lv_irem hx hb dL_law_687 (by decide) ?_
    refine lv_iload hx hb dL_law_688 (lv_at hl 8 rfl) ?_
    refine lv_bipush (v := 8) hx hb dL_law_690 (by decide) ?_
    refine lv_idiv hx hb dL_law_692 (by decide) ?_
    refine lv_iconst (v := 2) hx hb dL_law_693 (by decide) ?_
    refine lv_irem hx hb dL_law_694 (by decide) ?_
    obtain ⟨j703, hj703, h⟩ := gJoin1_in h
    have J703 : ∀ (w0_703 : Int32) (H : Heap) (locs : List Loc) (ls : Array Slot), j703 w0_703 = some out → g_LS A D a (lE a cI (q_678.2, S.2.1, S.2.2)) s H locs → lv_has ls 15 [(0, .ref b), (1, .int v1), (2, .int v2), (3, .ref (a 0)), (4, .ref (a 65)), (5, .ref (a 130)), (7, .int v7), (8, .int v8)] → W p l e room_1 s m #[Value.ref b] below meth c H locs (K + 2) (SL + 12) Q (F0 m 703 ls [.int w0_703, .int (v10 - v10 / 8 * 8), .ref (a 65), .int q_678.1]) := by
      intro w0_703 H locs ls h hI hl
      rw [hj703] at h
      obtain ⟨q_703, e_703, h⟩ := gBind_in h
      refine g_lcB (S := (q_678.2, S.2.1, S.2.2)) (σ' := q_703.2) (r := q_703.1) (As := [.ref (a 65), .int (v10 - v10 / 8 * 8), .int w0_703]) (rest := [.int q_678.1]) F hI (c_L_fail l D (bA a) cI (g_inj_b F.2.2.1) F.2.2.2.2.2.2.2 sa N S.2.1 (v10 - v10 / 8 * 8) w0_703 q_703 e_703) kh_L_fail kn_L kd_L_fail kt_L_fail km_L_136 ⟨(Nat.le_of_ble_eq_true rfl), (Nat.le_of_ble_eq_true rfl), rfl, rfl⟩ hl.1 rfl (Nat.le_of_ble_eq_true rfl) ⟨(by show _ ≤ 624708; omega), (by show _ ≤ 7227575; omega)⟩ dL_law_703 (fun H locs hI => ?_)
      have hI : g_LS A D a (lE a cI (q_678.2, q_703.2, S.2.2)) s H locs := hI
      obtain ⟨j714, hj714, h⟩ := gJoin1_in h
      have J714 : ∀ (w0_714 : Int32) (H : Heap) (locs : List Loc) (ls : Array Slot), j714 w0_714 = some out → g_LS A D a (lE a cI (q_678.2, q_703.2, S.2.2)) s H locs → lv_has ls 15 [(0, .ref b), (1, .int v1), (2, .int v2), (3, .ref (a 0)), (4, .ref (a 65)), (5, .ref (a 130)), (7, .int v7), (8, .int v8)] → W p l e room_1 s m #[Value.ref b] below meth c H locs (K + 4) (SL + 24) Q (F0 m 714 ls [.int w0_714]) := by
        intro w0_714 H locs ls h hI hl
        rw [hj714] at h
        refine lv_istore (lv' := [(6, .int w0_714), (0, .ref b), (1, .int v1), (2, .int v2), (3, .ref (a 0)), (4, .ref (a 65)), (5, .ref (a 130)), (7, .int v7), (8, .int v8)]) hx hb dL_law_714 hl (by decide) rfl (fun ls hl => ?_)
        refine lv_goto (tgt := 802) hx hb dL_law_716 (by decide) ?_
        refine W.widen (k := (K + 4)) (n := (SL + 24)) (by omega) (by omega) ?_
        exact JN w0_714 (q_678.2, q_703.2, S.2.2) _ _ _ h hI (lv_sub hl [1, 2, 3, 4, 5, 6, 0, 7, 8] rfl)
      refine lv_icmp_ne (tgt := 713) hx hb dL_law_706 (by decide) (fun c_706 => ?_) (fun c_706 => ?_)
      · have h := (if_neg c_706).symm.trans h
        refine lv_iconst (v := 0) hx hb dL_law_713 (by decide) ?_
        refine W.widen (k := (K + 4)) (n := (SL + 24)) (by omega) (by omega) ?_
        exact J714 _ _ _ _ h hI (lv_sub hl [0, 1, 2, 3, 4, 5, 6, 7] rfl)
      · have h := (if_pos c_706).symm.trans h
        refine lv_iconst (v := 1) hx hb dL_law_709 (by decide) ?_
        refine lv_goto (tgt := 714) hx hb dL_law_710 (by decide) ?_
        refine W.widen (k := (K + 4)) (n := (SL + 24)) (by omega) (by omega) ?_
        exact J714 _ _ _ _ h hI (lv_sub hl [0, 1, 2, 3, 4, 5, 6, 7] rfl)
    refine lv_if_ne (tgt := 702) hx hb dL_law_695 (by decide) (fun c_695 => ?_) (fun c_695 => ?_)
    · have h := (if_neg c_695).symm.trans h
      refine lv_iconst (v := 0) hx hb dL_law_702 (by decide) ?_
      refine W.widen (k := (K + 2)) (n := (SL + 12)) (by omega) (by omega) ?_
      exact J703 _ _ _ _ h hI (lv_sub hl [0, 1, 2, 3, 4, 5, 6, 7] rfl)
    · have h := (if_pos c_695).symm.trans h
      refine lv_iconst (v := 1) hx hb dL_law_698 (by decide) ?_
      refine lv_goto (tgt := 703) hx hb dL_law_699 (by decide) ?_
      refine W.widen (k := (K + 2)) (n := (SL + 12)) (by omega) (by omega) ?_
      exact J703 _ _ _ _ h hI (lv_sub hl [0, 1, 2, 3, 4, 5, 6, 7] rfl)
  refine lv_if_ne (tgt := 677) hx hb dL_law_670 (by decide) (fun c_670 => ?_) (fun c_670 => ?_)
  · have h := (if_neg c_670).symm.trans h
    refine lv_iconst (v := 0) hx hb dL_law_677 (by decide) ?_
    refine W.widen (k := (K + 0)) (n := (SL + 0)) (by omega) (by omega) ?_
    exact J678 _ _ _ _ h hI (lv_sub hl [0, 1, 2, 3, 4, 5, 6, 7, 8] rfl)
  · have h := (if_pos c_670).symm.trans h
    refine lv_iconst (v := 1) hx hb dL_law_673 (by decide) ?_
    refine lv_goto (tgt := 678) hx hb dL_law_674 (by decide) ?_
    refine W.widen (k := (K + 0)) (n := (SL + 0)) (by omega) (by omega) ?_
    exact J678 _ _ _ _ h hI (lv_sub hl [0, 1, 2, 3, 4, 5, 6, 7, 8] rfl)
def h_case9 (N : Nat) (v10 : Int32) (S : lSt) (jn : Int32 → lSt → Option Int32) : Option Int32 :=
  gJoin1 (fun (w0_737 : Int32) =>
      (h_does N S.1 6 w0_737 ((v10 / 24) - (v10 / 24) / 8 * 8) ((v10 / 192) - (v10 / 192) / 300 * 300)).bind (fun (q_762 : Int32 × gSt) =>
      (h_does N S.2.1 6 w0_737 ((v10 / 24) - (v10 / 24) / 8 * 8) ((v10 / 192) - (v10 / 192) / 300 * 300)).bind (fun (q_789 : Int32 × gSt) =>
      gJoin1 (fun (w0_800 : Int32) =>
          jn w0_800 (q_762.2, q_789.2, S.2.2)) (fun j800 =>
        if q_762.1 = q_789.1 then
          j800 1
        else
          j800 0)))) (fun j737 =>
    if S.2.2 0 = 0 then
      j737 0
    else
      if S.2.2 0 = 0 then none else
      j737 (v10 - v10 / (S.2.2 0) * (S.2.2 0)))
set_option maxRecDepth 100000 in
set_option maxHeartbeats 8000000 in
theorem w_case9 {p : Program} {e : Env} {s : State} {m : MethodId} {below : List Frame} {meth : Method} {c : Code} {l : Launch} {b : Nat} {D : va_G} {a : Nat → Nat} {cI : ClassId} {sa : Nat → Nat} {Q : State → Prop} {A : Nat → Prop} {N : Nat} {v1 v2 v7 v8 v10 : Int32} {S : lSt} {jn : Int32 → lSt → Option Int32} {out : Int32} {K SL : Nat} (F : g_LF A p l m c cL_law 15 s #[Value.ref b] D a cI sa) (hK : K + 8 ≤ 624708) (hSL : SL + 48 ≤ 7227575)
    (JN : ∀ (v6 : Int32) (S : lSt) (H : Heap) (locs : List Loc) (ls : Array Slot), jn v6 S = some out → g_LS A D a (lE a cI S) s H locs → lv_has ls 15 [(0, .ref b), (1, .int v1), (2, .int v2), (3, .ref (a 0)), (4, .ref (a 65)), (5, .ref (a 130)), (6, .int v6), (7, .int v7), (8, .int v8)] → W p l e room_1 s m #[Value.ref b] below meth c H locs (K + 8) (SL + 48) Q (F0 m 802 ls []))
    (h : h_case9 N v10 S jn = some out) {H : Heap} {locs : List Loc} {ls : Array Slot} (hI : g_LS A D a (lE a cI S) s H locs) (hl : lv_has ls 15 [(0, .ref b), (1, .int v1), (2, .int v2), (3, .ref (a 0)), (4, .ref (a 65)), (5, .ref (a 130)), (7, .int v7), (8, .int v8), (10, .int v10)]) : W p l e room_1 s m #[Value.ref b] below meth c H locs K SL Q (F0 m 719 ls []) := by
  have hx := F.1.1
  have hb := F.1.2.1
  unfold h_case9 at h
  refine lv_aload hx hb dL_law_719 (lv_at hl 5 rfl) ?_
  refine lv_iconst (v := 0) hx hb dL_law_721 (by decide) ?_
  refine g_lald F hI dL_law_722 ?_
  obtain ⟨j737, hj737, h⟩ := gJoin1_in h
  have J737 : ∀ (w0_737 : Int32) (H : Heap) (locs : List Loc) (ls : Array Slot), j737 w0_737 = some out → g_LS A D a (lE a cI S) s H locs → lv_has ls 15 [(0, .ref b), (1, .int v1), (2, .int v2), (3, .ref (a 0)), (4, .ref (a 65)), (5, .ref (a 130)), (7, .int v7), (8, .int v8), (10, .int v10)] → W p l e room_1 s m #[Value.ref b] below meth c H locs (K + 0) (SL + 0) Q (F0 m 737 ls [.int w0_737]) := by
    intro w0_737 H locs ls h hI hl
    rw [hj737] at h
    refine lv_istore (lv' := [(13, .int w0_737), (0, .ref b), (1, .int v1), (2, .int v2), (3, .ref (a 0)), (4, .ref (a 65)), (5, .ref (a 130)), (7, .int v7), (8, .int v8), (10, .int v10)]) hx hb dL_law_737 hl (by decide) rfl (fun ls hl => ?_)
    refine lv_aload_n hx hb dL_law_739 rfl (lv_at hl 4 rfl) ?_
    refine lv_bipush (v := 6) hx hb dL_law_740 (by decide) ?_
    refine lv_iload hx hb dL_law_742 (lv_at hl 0 rfl) ?_
    refine lv_iload hx hb dL_law_744 (lv_at hl 9 rfl) ?_
    refine lv_bipush (v := 24) hx hb dL_law_746 (by decide) ?_
    refine lv_idiv hx hb dL_law_748 (by decide) ?_
    refine lv_bipush (v := 8) hx hb dL_law_749 (by decide) ?_
    refine lv_irem hx hb dL_law_751 (by decide) ?_
    refine lv_iload hx hb dL_law_752 (lv_at hl 9 rfl) ?_
    refine lv_sipush (v := 192) hx hb dL_law_754 (by decide) ?_
    refine lv_idiv hx hb dL_law_757 (by decide) ?_
    refine lv_sipush (v := 300) hx hb dL_law_758 (by decide) ?_
    refine lv_irem hx hb dL_law_761 (by decide) ?_
    obtain ⟨q_762, e_762, h⟩ := gBind_in h
    refine g_lcA (S := S) (σ' := q_762.2) (r := q_762.1) (As := [.ref (a 0), .int 6, .int w0_737, .int ((v10 / 24) - (v10 / 24) / 8 * 8), .int ((v10 / 192) - (v10 / 192) / 300 * 300)]) (rest := []) F hI (c_L_does l D a cI (g_inj_sub (by decide) F.2.2.1) F.2.2.2.2.2.2.2 sa N S.1 6 w0_737 ((v10 / 24) - (v10 / 24) / 8 * 8) ((v10 / 192) - (v10 / 192) / 300 * 300) q_762 e_762) kh_L_does kn_L kd_L_does kt_L_does km_L_128 ⟨(Nat.le_of_ble_eq_true rfl), (Nat.le_of_ble_eq_true rfl), rfl, rfl⟩ hl.1 rfl (Nat.le_of_ble_eq_true rfl) ⟨(by show _ ≤ 624708; omega), (by show _ ≤ 7227575; omega)⟩ dL_law_762 (fun H locs hI => ?_)
    have hI : g_LS A D a (lE a cI (q_762.2, S.2.1, S.2.2)) s H locs := hI
    refine lv_aload hx hb dL_law_765 (lv_at hl 5 rfl) ?_
    refine lv_bipush (v := 6) hx hb dL_law_767 (by decide) ?_
    refine lv_iload hx hb dL_law_769 (lv_at hl 0 rfl) ?_
    refine lv_iload hx hb dL_law_771 (lv_at hl 9 rfl) ?_
    refine lv_bipush (v := 24) hx hb dL_law_773 (by decide) ?_
    refine lv_idiv hx hb dL_law_775 (by decide) ?_
    refine lv_bipush (v := 8) hx hb dL_law_776 (by decide) ?_
    refine lv_irem hx hb dL_law_778 (by decide) ?_
    refine lv_iload hx hb dL_law_779 (lv_at hl 9 rfl) ?_
    refine lv_sipush (v := 192) hx hb dL_law_781 (by decide) ?_
    refine lv_idiv hx hb dL_law_784 (by decide) ?_
    refine lv_sipush (v := 300) hx hb dL_law_785 (by decide) ?_
    refine lv_irem hx hb dL_law_788 (by decide) ?_
    obtain ⟨q_789, e_789, h⟩ := gBind_in h
    refine g_lcB (S := (q_762.2, S.2.1, S.2.2)) (σ' := q_789.2) (r := q_789.1) (As := [.ref (a 65), .int 6, .int w0_737, .int ((v10 / 24) - (v10 / 24) / 8 * 8), .int ((v10 / 192) - (v10 / 192) / 300 * 300)]) (rest := [.int q_762.1]) F hI (c_L_does l D (bA a) cI (g_inj_b F.2.2.1) F.2.2.2.2.2.2.2 sa N S.2.1 6 w0_737 ((v10 / 24) - (v10 / 24) / 8 * 8) ((v10 / 192) - (v10 / 192) / 300 * 300) q_789 e_789) kh_L_does kn_L kd_L_does kt_L_does km_L_128 ⟨(Nat.le_of_ble_eq_true rfl), (Nat.le_of_ble_eq_true rfl), rfl, rfl⟩ hl.1 rfl (Nat.le_of_ble_eq_true rfl) ⟨(by show _ ≤ 624708; omega), (by show _ ≤ 7227575; omega)⟩ dL_law_789 (fun H locs hI => ?_)
    have hI : g_LS A D a (lE a cI (q_762.2, q_789.2, S.2.2)) s H locs := hI
    obtain ⟨j800, hj800, h⟩ := gJoin1_in h
    have J800 : ∀ (w0_800 : Int32) (H : Heap) (locs : List Loc) (ls : Array Slot), j800 w0_800 = some out → g_LS A D a (lE a cI (q_762.2, q_789.2, S.2.2)) s H locs → lv_has ls 15 [(0, .ref b), (1, .int v1), (2, .int v2), (3, .ref (a 0)), (4, .ref (a 65)), (5, .ref (a 130)), (7, .int v7), (8, .int v8)] → W p l e room_1 s m #[Value.ref b] below meth c H locs (K + 8) (SL + 48) Q (F0 m 800 ls [.int w0_800]) := by
      intro w0_800 H locs ls h hI hl
      rw [hj800] at h
      refine lv_istore (lv' := [(6, .int w0_800), (0, .ref b), (1, .int v1), (2, .int v2), (3, .ref (a 0)), (4, .ref (a 65)), (5, .ref (a 130)), (7, .int v7), (8, .int v8)]) hx hb dL_law_800 hl (by decide) rfl (fun ls hl => ?_)
      refine W.widen (k := (K + 8)) (n := (SL + 48)) (by omega) (by omega) ?_
      exact JN w0_800 (q_762.2, q_789.2, S.2.2) _ _ _ h hI (lv_sub hl [1, 2, 3, 4, 5, 6, 0, 7, 8] rfl)
    refine lv_icmp_ne (tgt := 799) hx hb dL_law_792 (by decide) (fun c_792 => ?_) (fun c_792 => ?_)
    · have h := (if_neg c_792).symm.trans h
      refine lv_iconst (v := 0) hx hb dL_law_799 (by decide) ?_
      refine W.widen (k := (K + 8)) (n := (SL + 48)) (by omega) (by omega) ?_
      exact J800 _ _ _ _ h hI (lv_sub hl [1, 2, 3, 4, 5, 6, 7, 8] rfl)
    · have h := (if_pos c_792).symm.trans h
      refine lv_iconst (v := 1) hx hb dL_law_795 (by decide) ?_
      refine lv_goto (tgt := 800) hx hb dL_law_796 (by decide) ?_
      refine W.widen (k := (K + 8)) (n := (SL + 48)) (by omega) (by omega) ?_
      exact J800 _ _ _ _ h hI (lv_sub hl [1, 2, 3, 4, 5, 6, 7, 8] rfl)
  refine lv_if_ne (tgt := 730) hx hb dL_law_723 (by decide) (fun c_723 => ?_) (fun c_723 => ?_)
  · have h := (if_neg c_723).symm.trans h
    refine lv_iload hx hb dL_law_730 (lv_at hl 8 rfl) ?_
    refine lv_aload hx hb dL_law_732 (lv_at hl 5 rfl) ?_
    refine lv_iconst (v := 0) hx hb dL_law_734 (by decide) ?_
    refine g_lald F hI dL_law_735 ?_
    obtain ⟨g_736, h⟩ := g_guard h
    refine lv_irem hx hb dL_law_736 g_736 ?_
    refine W.widen (k := (K + 0)) (n := (SL + 0)) (by omega) (by omega) ?_
    exact J737 _ _ _ _ h hI (lv_sub hl [0, 1, 2, 3, 4, 5, 6, 7, 8] rfl)
  · have h := (if_pos c_723).symm.trans h
    refine lv_iconst (v := 0) hx hb dL_law_726 (by decide) ?_
    refine lv_goto (tgt := 737) hx hb dL_law_727 (by decide) ?_
    refine W.widen (k := (K + 0)) (n := (SL + 0)) (by omega) (by omega) ?_
    exact J737 _ _ _ _ h hI (lv_sub hl [0, 1, 2, 3, 4, 5, 6, 7, 8] rfl)
