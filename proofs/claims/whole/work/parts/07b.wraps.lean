def f_L_setHeight (k : Nat) : Int32 := if k = 0 then 0 else if k = 1 then 1 else 2
def o_L_setHeight (k : Nat) (r : Int32) (f : Nat → Int64) : Nat → Int64 := if k = 0 then vp_updL f 0 r.toInt64 else f
abbrev rmL_setHeight : Room := { frames := 8, cells := 2, slots := 12, locals := 127 }
set_option maxRecDepth 100000 in
set_option maxHeartbeats 4000000 in
theorem c_L_setHeight (l : Launch) (D : va_G) (a : Nat → Nat) (cI cJ : ClassId) (hj : g_Inj 66 a) (hlt : l.stackTraces = false) (sa : Nat → Nat) (x1 x2 x3 : Int32) (σ : gSt) (f : Nat → Int64) (out : Nat × Int32 × gSt) (hh : f_X9_setHeight σ x1 x2 x3 = out) (hkk : out.1 = 0 ∨ out.1 = 1 ∨ out.1 = 2) : Met l yL_setHeight (Cond.codeWith yL_setHeight cL_setHeight 6 (some .int) [(0, 12, 15, 13), (0, 12, 19, 15)] :: gW) rmL_setHeight (g_PcL D a (wE a cI cJ σ f) [(cI, .int), (cJ, .long)] sa [.ref (a 0), .int x1, .int x2, .int x3, .ref (a 65)]) (g_Qi 66 D a (wE a cI cJ out.2.2 (o_L_setHeight out.1 out.2.1 f)) (f_L_setHeight out.1)) 2 12 (g_Own 66 a) := by
  obtain ⟨k, r, σ'⟩ := out
  refine g_metL (by decide) hj (Nat.le_of_ble_eq_true rfl) ?_
  intro p e s m args below meth c Q ls F X htab hl hI hq
  have hx := F.1.1
  have hb := F.1.2.1
  have hl : lv_has ls 6 [(0, .ref (a 0)), (1, .int x1), (2, .int x2), (3, .int x3), (4, .ref (a 65))] := hl
  refine lv_aload hx hb dL_setHeight_0 (lv_at hl 4 rfl) ?_
  refine lv_iconst (v := 0) hx hb dL_setHeight_2 (by decide) ?_
  refine lv_aload_n hx hb dL_setHeight_3 rfl (lv_at hl 0 rfl) ?_
  refine lv_iload_n hx hb dL_setHeight_4 rfl (lv_at hl 1 rfl) ?_
  refine lv_iload_n hx hb dL_setHeight_5 rfl (lv_at hl 2 rfl) ?_
  refine lv_iload_n hx hb dL_setHeight_6 rfl (lv_at hl 3 rfl) ?_
  have hM := c_X9_setHeight l D a cI (g_inj_sub (by decide) F.2.2) hlt sa σ x1 x2 x3
  rw [hh] at hM
  refine g_callXWi (σ' := σ') (k := k) (r := r) (As := [.int x1, .int x2, .int x3]) (rest := [.int 0, .ref (a 65)]) F X hI hM kb_X9_setHeight ki_X9_setHeight ks_X9_setHeight km_L_7 ⟨(Nat.le_of_ble_eq_true rfl), (Nat.le_of_ble_eq_true rfl), rfl, rfl⟩ hl.1 rfl (Nat.le_of_ble_eq_true rfl) ⟨(Nat.le_of_ble_eq_true rfl), (Nat.le_of_ble_eq_true rfl)⟩ dL_setHeight_7 (fun H locs ce q9 hk hI h1 h2 h3 => ?_) (fun H locs hk hI => ?_)
  · rcases hkk with h0 | h0 | h0
    · exact absurd h0 hk
    · have h0 : k = 1 := h0
      subst h0
      refine vx_catch (own := RL) (name := "java/lang/IndexOutOfBoundsException") F.1.2.2.2.1 [] ⟨0, 12, 15, 13⟩ [⟨0, 12, 19, 15⟩] htab (fun _ h => nomatch h) rfl (by decide) (F.1.2.2.2.2 _ kl_L_13) (va_Nw.use rfl X.1.2.2.2.2.1) h1 h2 h3 ?_
      refine lv_astore (lv' := [(5, .ref q9), (0, .ref (a 0)), (1, .int x1), (2, .int x2), (3, .int x3), (4, .ref (a 65))]) hx hb dL_setHeight_15 hl (by decide) rfl (fun ls hl => ?_)
      refine lv_iconst (v := 1) hx hb dL_setHeight_17 (by decide) ?_
      exact hq _ _ _ _ _ _ (Nat.le_of_ble_eq_true rfl) (Nat.le_of_ble_eq_true rfl) hI dL_setHeight_18
    · have h0 : k = 2 := h0
      subst h0
      refine vx_catch (own := RL) (name := "java/lang/IllegalArgumentException") F.1.2.2.2.1 [⟨0, 12, 15, 13⟩] ⟨0, 12, 19, 15⟩ [] htab (List.forall_mem_cons.mpr ⟨Or.inr ⟨by decide, _, F.1.2.2.2.2 _ kl_L_13, X.2.2.1⟩, (fun _ h => nomatch h)⟩) rfl (by decide) (F.1.2.2.2.2 _ kl_L_15) (va_Nw.use rfl X.1.2.2.2.2.2.1) h1 h2 h3 ?_
      refine lv_astore (lv' := [(5, .ref q9), (0, .ref (a 0)), (1, .int x1), (2, .int x2), (3, .int x3), (4, .ref (a 65))]) hx hb dL_setHeight_19 hl (by decide) rfl (fun ls hl => ?_)
      refine lv_iconst (v := 2) hx hb dL_setHeight_21 (by decide) ?_
      exact hq _ _ _ _ _ _ (Nat.le_of_ble_eq_true rfl) (Nat.le_of_ble_eq_true rfl) hI dL_setHeight_22
  · subst hk
    refine lv_i2l hx hb dL_setHeight_10 rfl ?_
    refine g_wlast F hI dL_setHeight_11 (fun H locs hI => ?_)
    refine lv_goto (tgt := 23) hx hb dL_setHeight_12 (by decide) ?_
    refine lv_iconst (v := 0) hx hb dL_setHeight_23 (by decide) ?_
    exact hq _ _ _ _ _ _ (Nat.le_of_ble_eq_true rfl) (Nat.le_of_ble_eq_true rfl) hI dL_setHeight_24
def f_L_hill (k : Nat) : Int32 := if k = 0 then 0 else if k = 1 then 1 else 2
def o_L_hill (k : Nat) (r : Int32) (f : Nat → Int64) : Nat → Int64 := if k = 0 then vp_updL f 0 r.toInt64 else f
abbrev rmL_hill : Room := { frames := 8, cells := 3, slots := 18, locals := 128 }
set_option maxRecDepth 100000 in
set_option maxHeartbeats 4000000 in
theorem c_L_hill (l : Launch) (D : va_G) (a : Nat → Nat) (cI cJ : ClassId) (hj : g_Inj 66 a) (hlt : l.stackTraces = false) (sa : Nat → Nat) (N : Nat) (x1 x2 x3 x4 : Int32) (σ : gSt) (f : Nat → Int64) (out : Nat × Int32 × gSt) (hh : f_X9_hill N σ x1 x2 x3 x4 = some out) (hkk : out.1 = 0 ∨ out.1 = 1 ∨ out.1 = 2) : Met l yL_hill (Cond.codeWith yL_hill cL_hill 7 (some .int) [(0, 14, 17, 13), (0, 14, 21, 15)] :: gW) rmL_hill (g_PcL D a (wE a cI cJ σ f) [(cI, .int), (cJ, .long)] sa [.ref (a 0), .int x1, .int x2, .int x3, .int x4, .ref (a 65)]) (g_Qi 66 D a (wE a cI cJ out.2.2 (o_L_hill out.1 out.2.1 f)) (f_L_hill out.1)) 3 18 (g_Own 66 a) := by
  obtain ⟨k, r, σ'⟩ := out
  refine g_metL (by decide) hj (Nat.le_of_ble_eq_true rfl) ?_
  intro p e s m args below meth c Q ls F X htab hl hI hq
  have hx := F.1.1
  have hb := F.1.2.1
  have hl : lv_has ls 7 [(0, .ref (a 0)), (1, .int x1), (2, .int x2), (3, .int x3), (4, .int x4), (5, .ref (a 65))] := hl
  refine lv_aload hx hb dL_hill_0 (lv_at hl 5 rfl) ?_
  refine lv_iconst (v := 0) hx hb dL_hill_2 (by decide) ?_
  refine lv_aload_n hx hb dL_hill_3 rfl (lv_at hl 0 rfl) ?_
  refine lv_iload_n hx hb dL_hill_4 rfl (lv_at hl 1 rfl) ?_
  refine lv_iload_n hx hb dL_hill_5 rfl (lv_at hl 2 rfl) ?_
  refine lv_iload_n hx hb dL_hill_6 rfl (lv_at hl 3 rfl) ?_
  refine lv_iload hx hb dL_hill_7 (lv_at hl 4 rfl) ?_
  refine g_callXWi (σ' := σ') (k := k) (r := r) (As := [.int x1, .int x2, .int x3, .int x4]) (rest := [.int 0, .ref (a 65)]) F X hI (c_X9_hill l D a cI (g_inj_sub (by decide) F.2.2) hlt sa N σ x1 x2 x3 x4 _ hh) kb_X9_hill ki_X9_hill ks_X9_hill km_L_17 ⟨(Nat.le_of_ble_eq_true rfl), (Nat.le_of_ble_eq_true rfl), rfl, rfl⟩ hl.1 rfl (Nat.le_of_ble_eq_true rfl) ⟨(Nat.le_of_ble_eq_true rfl), (Nat.le_of_ble_eq_true rfl)⟩ dL_hill_9 (fun H locs ce q9 hk hI h1 h2 h3 => ?_) (fun H locs hk hI => ?_)
  · rcases hkk with h0 | h0 | h0
    · exact absurd h0 hk
    · have h0 : k = 1 := h0
      subst h0
      refine vx_catch (own := RL) (name := "java/lang/IndexOutOfBoundsException") F.1.2.2.2.1 [] ⟨0, 14, 17, 13⟩ [⟨0, 14, 21, 15⟩] htab (fun _ h => nomatch h) rfl (by decide) (F.1.2.2.2.2 _ kl_L_13) (va_Nw.use rfl X.1.2.2.2.2.1) h1 h2 h3 ?_
      refine lv_astore (lv' := [(6, .ref q9), (0, .ref (a 0)), (1, .int x1), (2, .int x2), (3, .int x3), (4, .int x4), (5, .ref (a 65))]) hx hb dL_hill_17 hl (by decide) rfl (fun ls hl => ?_)
      refine lv_iconst (v := 1) hx hb dL_hill_19 (by decide) ?_
      exact hq _ _ _ _ _ _ (Nat.le_of_ble_eq_true rfl) (Nat.le_of_ble_eq_true rfl) hI dL_hill_20
    · have h0 : k = 2 := h0
      subst h0
      refine vx_catch (own := RL) (name := "java/lang/IllegalArgumentException") F.1.2.2.2.1 [⟨0, 14, 17, 13⟩] ⟨0, 14, 21, 15⟩ [] htab (List.forall_mem_cons.mpr ⟨Or.inr ⟨by decide, _, F.1.2.2.2.2 _ kl_L_13, X.2.2.1⟩, (fun _ h => nomatch h)⟩) rfl (by decide) (F.1.2.2.2.2 _ kl_L_15) (va_Nw.use rfl X.1.2.2.2.2.2.1) h1 h2 h3 ?_
      refine lv_astore (lv' := [(6, .ref q9), (0, .ref (a 0)), (1, .int x1), (2, .int x2), (3, .int x3), (4, .int x4), (5, .ref (a 65))]) hx hb dL_hill_21 hl (by decide) rfl (fun ls hl => ?_)
      refine lv_iconst (v := 2) hx hb dL_hill_23 (by decide) ?_
      exact hq _ _ _ _ _ _ (Nat.le_of_ble_eq_true rfl) (Nat.le_of_ble_eq_true rfl) hI dL_hill_24
  · subst hk
    refine lv_i2l hx hb dL_hill_12 rfl ?_
    refine g_wlast F hI dL_hill_13 (fun H locs hI => ?_)
    refine lv_goto (tgt := 25) hx hb dL_hill_14 (by decide) ?_
    refine lv_iconst (v := 0) hx hb dL_hill_25 (by decide) ?_
    exact hq _ _ _ _ _ _ (Nat.le_of_ble_eq_true rfl) (Nat.le_of_ble_eq_true rfl) hI dL_hill_26
def f_L_setGround (k : Nat) : Int32 := if k = 0 then 0 else if k = 1 then 1 else 2
def o_L_setGround (k : Nat) (r : Int32) (f : Nat → Int64) : Nat → Int64 := if k = 0 then vp_updL f 0 r.toInt64 else f
abbrev rmL_setGround : Room := { frames := 8, cells := 5, slots := 30, locals := 129 }
set_option maxRecDepth 100000 in
set_option maxHeartbeats 4000000 in
theorem c_L_setGround (l : Launch) (D : va_G) (a : Nat → Nat) (cI cJ : ClassId) (hj : g_Inj 66 a) (hlt : l.stackTraces = false) (sa : Nat → Nat) (N : Nat) (x1 x2 x3 x4 x5 : Int32) (σ : gSt) (f : Nat → Int64) (out : Nat × Int32 × gSt) (hh : f_X9_setGround N σ x1 x2 x3 x4 x5 = some out) (hkk : out.1 = 0 ∨ out.1 = 1 ∨ out.1 = 2) : Met l yL_setGround (Cond.codeWith yL_setGround cL_setGround 8 (some .int) [(0, 16, 19, 13), (0, 16, 23, 15)] :: gW) rmL_setGround (g_PcL D a (wE a cI cJ σ f) [(cI, .int), (cJ, .long)] sa [.ref (a 0), .int x1, .int x2, .int x3, .int x4, .int x5, .ref (a 65)]) (g_Qi 66 D a (wE a cI cJ out.2.2 (o_L_setGround out.1 out.2.1 f)) (f_L_setGround out.1)) 5 30 (g_Own 66 a) := by
  obtain ⟨k, r, σ'⟩ := out
  refine g_metL (by decide) hj (Nat.le_of_ble_eq_true rfl) ?_
  intro p e s m args below meth c Q ls F X htab hl hI hq
  have hx := F.1.1
  have hb := F.1.2.1
  have hl : lv_has ls 8 [(0, .ref (a 0)), (1, .int x1), (2, .int x2), (3, .int x3), (4, .int x4), (5, .int x5), (6, .ref (a 65))] := hl
  refine lv_aload hx hb dL_setGround_0 (lv_at hl 6 rfl) ?_
  refine lv_iconst (v := 0) hx hb dL_setGround_2 (by decide) ?_
  refine lv_aload_n hx hb dL_setGround_3 rfl (lv_at hl 0 rfl) ?_
  refine lv_iload_n hx hb dL_setGround_4 rfl (lv_at hl 1 rfl) ?_
  refine lv_iload_n hx hb dL_setGround_5 rfl (lv_at hl 2 rfl) ?_
  refine lv_iload_n hx hb dL_setGround_6 rfl (lv_at hl 3 rfl) ?_
  refine lv_iload hx hb dL_setGround_7 (lv_at hl 4 rfl) ?_
  refine lv_iload hx hb dL_setGround_9 (lv_at hl 5 rfl) ?_
  refine g_callXWi (σ' := σ') (k := k) (r := r) (As := [.int x1, .int x2, .int x3, .int x4, .int x5]) (rest := [.int 0, .ref (a 65)]) F X hI (c_X9_setGround l D a cI (g_inj_sub (by decide) F.2.2) hlt sa N σ x1 x2 x3 x4 x5 _ hh) kb_X9_setGround ki_X9_setGround ks_X9_setGround km_L_21 ⟨(Nat.le_of_ble_eq_true rfl), (Nat.le_of_ble_eq_true rfl), rfl, rfl⟩ hl.1 rfl (Nat.le_of_ble_eq_true rfl) ⟨(Nat.le_of_ble_eq_true rfl), (Nat.le_of_ble_eq_true rfl)⟩ dL_setGround_11 (fun H locs ce q9 hk hI h1 h2 h3 => ?_) (fun H locs hk hI => ?_)
  · rcases hkk with h0 | h0 | h0
    · exact absurd h0 hk
    · have h0 : k = 1 := h0
      subst h0
      refine vx_catch (own := RL) (name := "java/lang/IndexOutOfBoundsException") F.1.2.2.2.1 [] ⟨0, 16, 19, 13⟩ [⟨0, 16, 23, 15⟩] htab (fun _ h => nomatch h) rfl (by decide) (F.1.2.2.2.2 _ kl_L_13) (va_Nw.use rfl X.1.2.2.2.2.1) h1 h2 h3 ?_
      refine lv_astore (lv' := [(7, .ref q9), (0, .ref (a 0)), (1, .int x1), (2, .int x2), (3, .int x3), (4, .int x4), (5, .int x5), (6, .ref (a 65))]) hx hb dL_setGround_19 hl (by decide) rfl (fun ls hl => ?_)
      refine lv_iconst (v := 1) hx hb dL_setGround_21 (by decide) ?_
      exact hq _ _ _ _ _ _ (Nat.le_of_ble_eq_true rfl) (Nat.le_of_ble_eq_true rfl) hI dL_setGround_22
    · have h0 : k = 2 := h0
      subst h0
      refine vx_catch (own := RL) (name := "java/lang/IllegalArgumentException") F.1.2.2.2.1 [⟨0, 16, 19, 13⟩] ⟨0, 16, 23, 15⟩ [] htab (List.forall_mem_cons.mpr ⟨Or.inr ⟨by decide, _, F.1.2.2.2.2 _ kl_L_13, X.2.2.1⟩, (fun _ h => nomatch h)⟩) rfl (by decide) (F.1.2.2.2.2 _ kl_L_15) (va_Nw.use rfl X.1.2.2.2.2.2.1) h1 h2 h3 ?_
      refine lv_astore (lv' := [(7, .ref q9), (0, .ref (a 0)), (1, .int x1), (2, .int x2), (3, .int x3), (4, .int x4), (5, .int x5), (6, .ref (a 65))]) hx hb dL_setGround_23 hl (by decide) rfl (fun ls hl => ?_)
      refine lv_iconst (v := 2) hx hb dL_setGround_25 (by decide) ?_
      exact hq _ _ _ _ _ _ (Nat.le_of_ble_eq_true rfl) (Nat.le_of_ble_eq_true rfl) hI dL_setGround_26
  · subst hk
    refine lv_i2l hx hb dL_setGround_14 rfl ?_
    refine g_wlast F hI dL_setGround_15 (fun H locs hI => ?_)
    refine lv_goto (tgt := 27) hx hb dL_setGround_16 (by decide) ?_
    refine lv_iconst (v := 0) hx hb dL_setGround_27 (by decide) ?_
    exact hq _ _ _ _ _ _ (Nat.le_of_ble_eq_true rfl) (Nat.le_of_ble_eq_true rfl) hI dL_setGround_28
def f_L_control (k : Nat) : Int32 := if k = 0 then 0 else if k = 1 then 1 else 2
def o_L_control (k : Nat) (r : Int32) (f : Nat → Int64) : Nat → Int64 := if k = 0 then vp_updL f 0 r.toInt64 else f
abbrev rmL_control : Room := { frames := 8, cells := 3, slots := 18, locals := 127 }
set_option maxRecDepth 100000 in
set_option maxHeartbeats 4000000 in
theorem c_L_control (l : Launch) (D : va_G) (a : Nat → Nat) (cI cJ : ClassId) (hj : g_Inj 66 a) (hlt : l.stackTraces = false) (sa : Nat → Nat) (N : Nat) (x1 x2 : Int32) (σ : gSt) (f : Nat → Int64) (out : Nat × Int32 × gSt) (hh : f_X9_control N σ x1 x2 = some out) (hkk : out.1 = 0 ∨ out.1 = 1 ∨ out.1 = 3) : Met l yL_control (Cond.codeWith yL_control cL_control 5 (some .int) [(0, 10, 13, 13), (0, 10, 17, 29)] :: gW) rmL_control (g_PcL D a (wE a cI cJ σ f) [(cI, .int), (cJ, .long)] sa [.ref (a 0), .int x1, .int x2, .ref (a 65)]) (g_Qi 66 D a (wE a cI cJ out.2.2 (o_L_control out.1 out.2.1 f)) (f_L_control out.1)) 3 18 (g_Own 66 a) := by
  obtain ⟨k, r, σ'⟩ := out
  refine g_metL (by decide) hj (Nat.le_of_ble_eq_true rfl) ?_
  intro p e s m args below meth c Q ls F X htab hl hI hq
  have hx := F.1.1
  have hb := F.1.2.1
  have hl : lv_has ls 5 [(0, .ref (a 0)), (1, .int x1), (2, .int x2), (3, .ref (a 65))] := hl
  refine lv_aload_n hx hb dL_control_0 rfl (lv_at hl 3 rfl) ?_
  refine lv_iconst (v := 0) hx hb dL_control_1 (by decide) ?_
  refine lv_aload_n hx hb dL_control_2 rfl (lv_at hl 0 rfl) ?_
  refine lv_iload_n hx hb dL_control_3 rfl (lv_at hl 1 rfl) ?_
  refine lv_iload_n hx hb dL_control_4 rfl (lv_at hl 2 rfl) ?_
  refine g_callXWi (σ' := σ') (k := k) (r := r) (As := [.int x1, .int x2]) (rest := [.int 0, .ref (a 65)]) F X hI (c_X9_control l D a cI (g_inj_sub (by decide) F.2.2) hlt sa N σ x1 x2 _ hh) kb_X9_control ki_X9_control ks_X9_control km_L_25 ⟨(Nat.le_of_ble_eq_true rfl), (Nat.le_of_ble_eq_true rfl), rfl, rfl⟩ hl.1 rfl (Nat.le_of_ble_eq_true rfl) ⟨(Nat.le_of_ble_eq_true rfl), (Nat.le_of_ble_eq_true rfl)⟩ dL_control_5 (fun H locs ce q9 hk hI h1 h2 h3 => ?_) (fun H locs hk hI => ?_)
  · rcases hkk with h0 | h0 | h0
    · exact absurd h0 hk
    · have h0 : k = 1 := h0
      subst h0
      refine vx_catch (own := RL) (name := "java/lang/IndexOutOfBoundsException") F.1.2.2.2.1 [] ⟨0, 10, 13, 13⟩ [⟨0, 10, 17, 29⟩] htab (fun _ h => nomatch h) rfl (by decide) (F.1.2.2.2.2 _ kl_L_13) (va_Nw.use rfl X.1.2.2.2.2.1) h1 h2 h3 ?_
      refine lv_astore (lv' := [(4, .ref q9), (0, .ref (a 0)), (1, .int x1), (2, .int x2), (3, .ref (a 65))]) hx hb dL_control_13 hl (by decide) rfl (fun ls hl => ?_)
      refine lv_iconst (v := 1) hx hb dL_control_15 (by decide) ?_
      exact hq _ _ _ _ _ _ (Nat.le_of_ble_eq_true rfl) (Nat.le_of_ble_eq_true rfl) hI dL_control_16
    · have h0 : k = 3 := h0
      subst h0
      refine vx_catch (own := RL) (name := "java/lang/IllegalStateException") F.1.2.2.2.1 [⟨0, 10, 13, 13⟩] ⟨0, 10, 17, 29⟩ [] htab (List.forall_mem_cons.mpr ⟨Or.inr ⟨by decide, _, F.1.2.2.2.2 _ kl_L_13, X.2.2.2.1⟩, (fun _ h => nomatch h)⟩) rfl (by decide) (F.1.2.2.2.2 _ kl_L_29) (va_Nw.use rfl X.1.2.2.2.2.2.2.1) h1 h2 h3 ?_
      refine lv_astore (lv' := [(4, .ref q9), (0, .ref (a 0)), (1, .int x1), (2, .int x2), (3, .ref (a 65))]) hx hb dL_control_17 hl (by decide) rfl (fun ls hl => ?_)
      refine lv_iconst (v := 2) hx hb dL_control_19 (by decide) ?_
      exact hq _ _ _ _ _ _ (Nat.le_of_ble_eq_true rfl) (Nat.le_of_ble_eq_true rfl) hI dL_control_20
  · subst hk
    refine lv_i2l hx hb dL_control_8 rfl ?_
    refine g_wlast F hI dL_control_9 (fun H locs hI => ?_)
    refine lv_goto (tgt := 21) hx hb dL_control_10 (by decide) ?_
    refine lv_iconst (v := 0) hx hb dL_control_21 (by decide) ?_
    exact hq _ _ _ _ _ _ (Nat.le_of_ble_eq_true rfl) (Nat.le_of_ble_eq_true rfl) hI dL_control_22
def f_L_visit (k : Nat) : Int32 := if k = 0 then 0 else if k = 1 then 1 else 2
def o_L_visit (k : Nat) (r : Int32) (f : Nat → Int64) : Nat → Int64 := if k = 0 then vp_updL f 0 r.toInt64 else f
abbrev rmL_visit : Room := { frames := 9, cells := 4, slots := 24, locals := 146 }
set_option maxRecDepth 100000 in
set_option maxHeartbeats 4000000 in
theorem c_L_visit (l : Launch) (D : va_G) (a : Nat → Nat) (cI cJ : ClassId) (hj : g_Inj 66 a) (hlt : l.stackTraces = false) (sa : Nat → Nat) (N : Nat) (x1 x2 : Int32) (σ : gSt) (f : Nat → Int64) (out : Nat × Int32 × gSt) (hh : f_X9_visit N σ x1 x2 = some out) (hkk : out.1 = 0 ∨ out.1 = 1 ∨ out.1 = 3) : Met l yL_visit (Cond.codeWith yL_visit cL_visit 5 (some .int) [(0, 10, 13, 13), (0, 10, 17, 29)] :: gW) rmL_visit (g_PcL D a (wE a cI cJ σ f) [(cI, .int), (cJ, .long)] sa [.ref (a 0), .int x1, .int x2, .ref (a 65)]) (g_Qi 66 D a (wE a cI cJ out.2.2 (o_L_visit out.1 out.2.1 f)) (f_L_visit out.1)) 4 24 (g_Own 66 a) := by
  obtain ⟨k, r, σ'⟩ := out
  refine g_metL (by decide) hj (Nat.le_of_ble_eq_true rfl) ?_
  intro p e s m args below meth c Q ls F X htab hl hI hq
  have hx := F.1.1
  have hb := F.1.2.1
  have hl : lv_has ls 5 [(0, .ref (a 0)), (1, .int x1), (2, .int x2), (3, .ref (a 65))] := hl
  refine lv_aload_n hx hb dL_visit_0 rfl (lv_at hl 3 rfl) ?_
  refine lv_iconst (v := 0) hx hb dL_visit_1 (by decide) ?_
  refine lv_aload_n hx hb dL_visit_2 rfl (lv_at hl 0 rfl) ?_
  refine lv_iload_n hx hb dL_visit_3 rfl (lv_at hl 1 rfl) ?_
  refine lv_iload_n hx hb dL_visit_4 rfl (lv_at hl 2 rfl) ?_
  refine g_callXWi (σ' := σ') (k := k) (r := r) (As := [.int x1, .int x2]) (rest := [.int 0, .ref (a 65)]) F X hI (c_X9_visit l D a cI (g_inj_sub (by decide) F.2.2) hlt sa N σ x1 x2 _ hh) kb_X9_visit ki_X9_visit ks_X9_visit km_L_31 ⟨(Nat.le_of_ble_eq_true rfl), (Nat.le_of_ble_eq_true rfl), rfl, rfl⟩ hl.1 rfl (Nat.le_of_ble_eq_true rfl) ⟨(Nat.le_of_ble_eq_true rfl), (Nat.le_of_ble_eq_true rfl)⟩ dL_visit_5 (fun H locs ce q9 hk hI h1 h2 h3 => ?_) (fun H locs hk hI => ?_)
  · rcases hkk with h0 | h0 | h0
    · exact absurd h0 hk
    · have h0 : k = 1 := h0
      subst h0
      refine vx_catch (own := RL) (name := "java/lang/IndexOutOfBoundsException") F.1.2.2.2.1 [] ⟨0, 10, 13, 13⟩ [⟨0, 10, 17, 29⟩] htab (fun _ h => nomatch h) rfl (by decide) (F.1.2.2.2.2 _ kl_L_13) (va_Nw.use rfl X.1.2.2.2.2.1) h1 h2 h3 ?_
      refine lv_astore (lv' := [(4, .ref q9), (0, .ref (a 0)), (1, .int x1), (2, .int x2), (3, .ref (a 65))]) hx hb dL_visit_13 hl (by decide) rfl (fun ls hl => ?_)
      refine lv_iconst (v := 1) hx hb dL_visit_15 (by decide) ?_
      exact hq _ _ _ _ _ _ (Nat.le_of_ble_eq_true rfl) (Nat.le_of_ble_eq_true rfl) hI dL_visit_16
    · have h0 : k = 3 := h0
      subst h0
      refine vx_catch (own := RL) (name := "java/lang/IllegalStateException") F.1.2.2.2.1 [⟨0, 10, 13, 13⟩] ⟨0, 10, 17, 29⟩ [] htab (List.forall_mem_cons.mpr ⟨Or.inr ⟨by decide, _, F.1.2.2.2.2 _ kl_L_13, X.2.2.2.1⟩, (fun _ h => nomatch h)⟩) rfl (by decide) (F.1.2.2.2.2 _ kl_L_29) (va_Nw.use rfl X.1.2.2.2.2.2.2.1) h1 h2 h3 ?_
      refine lv_astore (lv' := [(4, .ref q9), (0, .ref (a 0)), (1, .int x1), (2, .int x2), (3, .ref (a 65))]) hx hb dL_visit_17 hl (by decide) rfl (fun ls hl => ?_)
      refine lv_iconst (v := 2) hx hb dL_visit_19 (by decide) ?_
      exact hq _ _ _ _ _ _ (Nat.le_of_ble_eq_true rfl) (Nat.le_of_ble_eq_true rfl) hI dL_visit_20
  · subst hk
    refine lv_i2l hx hb dL_visit_8 rfl ?_
    refine g_wlast F hI dL_visit_9 (fun H locs hI => ?_)
    refine lv_goto (tgt := 21) hx hb dL_visit_10 (by decide) ?_
    refine lv_iconst (v := 0) hx hb dL_visit_21 (by decide) ?_
    exact hq _ _ _ _ _ _ (Nat.le_of_ble_eq_true rfl) (Nat.le_of_ble_eq_true rfl) hI dL_visit_22
def f_L_arrange (k : Nat) : Int32 := if k = 0 then 0 else if k = 1 then 1 else if k = 2 then 2 else 3
def o_L_arrange (k : Nat) (r : Int32) (f : Nat → Int64) : Nat → Int64 := if k = 0 then vp_updL f 0 r.toInt64 else f
abbrev rmL_arrange : Room := { frames := 9, cells := 3, slots := 18, locals := 164 }
set_option maxRecDepth 100000 in
set_option maxHeartbeats 4000000 in
theorem c_L_arrange (l : Launch) (D : va_G) (a : Nat → Nat) (cI cJ : ClassId) (hj : g_Inj 66 a) (hlt : l.stackTraces = false) (sa : Nat → Nat) (N : Nat) (x1 x2 : Int32) (σ : gSt) (f : Nat → Int64) (out : Nat × Int32 × gSt) (hh : f_X9_arrange N σ x1 x2 = some out) (hkk : out.1 = 0 ∨ out.1 = 1 ∨ out.1 = 2 ∨ out.1 = 3) : Met l yL_arrange (Cond.codeWith yL_arrange cL_arrange 5 (some .int) [(0, 10, 13, 13), (0, 10, 17, 15), (0, 10, 21, 29)] :: gW) rmL_arrange (g_PcL D a (wE a cI cJ σ f) [(cI, .int), (cJ, .long)] sa [.ref (a 0), .int x1, .int x2, .ref (a 65)]) (g_Qi 66 D a (wE a cI cJ out.2.2 (o_L_arrange out.1 out.2.1 f)) (f_L_arrange out.1)) 3 18 (g_Own 66 a) := by
  obtain ⟨k, r, σ'⟩ := out
  refine g_metL (by decide) hj (Nat.le_of_ble_eq_true rfl) ?_
  intro p e s m args below meth c Q ls F X htab hl hI hq
  have hx := F.1.1
  have hb := F.1.2.1
  have hl : lv_has ls 5 [(0, .ref (a 0)), (1, .int x1), (2, .int x2), (3, .ref (a 65))] := hl
  refine lv_aload_n hx hb dL_arrange_0 rfl (lv_at hl 3 rfl) ?_
  refine lv_iconst (v := 0) hx hb dL_arrange_1 (by decide) ?_
  refine lv_aload_n hx hb dL_arrange_2 rfl (lv_at hl 0 rfl) ?_
  refine lv_iload_n hx hb dL_arrange_3 rfl (lv_at hl 1 rfl) ?_
  refine lv_iload_n hx hb dL_arrange_4 rfl (lv_at hl 2 rfl) ?_
  refine g_callXWi (σ' := σ') (k := k) (r := r) (As := [.int x1, .int x2]) (rest := [.int 0, .ref (a 65)]) F X hI (c_X9_arrange l D a cI (g_inj_sub (by decide) F.2.2) hlt sa N σ x1 x2 _ hh) kb_X9_arrange ki_X9_arrange ks_X9_arrange km_L_34 ⟨(Nat.le_of_ble_eq_true rfl), (Nat.le_of_ble_eq_true rfl), rfl, rfl⟩ hl.1 rfl (Nat.le_of_ble_eq_true rfl) ⟨(Nat.le_of_ble_eq_true rfl), (Nat.le_of_ble_eq_true rfl)⟩ dL_arrange_5 (fun H locs ce q9 hk hI h1 h2 h3 => ?_) (fun H locs hk hI => ?_)
  · rcases hkk with h0 | h0 | h0 | h0
    · exact absurd h0 hk
    · have h0 : k = 1 := h0
      subst h0
      refine vx_catch (own := RL) (name := "java/lang/IndexOutOfBoundsException") F.1.2.2.2.1 [] ⟨0, 10, 13, 13⟩ [⟨0, 10, 17, 15⟩, ⟨0, 10, 21, 29⟩] htab (fun _ h => nomatch h) rfl (by decide) (F.1.2.2.2.2 _ kl_L_13) (va_Nw.use rfl X.1.2.2.2.2.1) h1 h2 h3 ?_
      refine lv_astore (lv' := [(4, .ref q9), (0, .ref (a 0)), (1, .int x1), (2, .int x2), (3, .ref (a 65))]) hx hb dL_arrange_13 hl (by decide) rfl (fun ls hl => ?_)
      refine lv_iconst (v := 1) hx hb dL_arrange_15 (by decide) ?_
      exact hq _ _ _ _ _ _ (Nat.le_of_ble_eq_true rfl) (Nat.le_of_ble_eq_true rfl) hI dL_arrange_16
    · have h0 : k = 2 := h0
      subst h0
      refine vx_catch (own := RL) (name := "java/lang/IllegalArgumentException") F.1.2.2.2.1 [⟨0, 10, 13, 13⟩] ⟨0, 10, 17, 15⟩ [⟨0, 10, 21, 29⟩] htab (List.forall_mem_cons.mpr ⟨Or.inr ⟨by decide, _, F.1.2.2.2.2 _ kl_L_13, X.2.2.1⟩, (fun _ h => nomatch h)⟩) rfl (by decide) (F.1.2.2.2.2 _ kl_L_15) (va_Nw.use rfl X.1.2.2.2.2.2.1) h1 h2 h3 ?_
      refine lv_astore (lv' := [(4, .ref q9), (0, .ref (a 0)), (1, .int x1), (2, .int x2), (3, .ref (a 65))]) hx hb dL_arrange_17 hl (by decide) rfl (fun ls hl => ?_)
      refine lv_iconst (v := 2) hx hb dL_arrange_19 (by decide) ?_
      exact hq _ _ _ _ _ _ (Nat.le_of_ble_eq_true rfl) (Nat.le_of_ble_eq_true rfl) hI dL_arrange_20
    · have h0 : k = 3 := h0
      subst h0
      refine vx_catch (own := RL) (name := "java/lang/IllegalStateException") F.1.2.2.2.1 [⟨0, 10, 13, 13⟩, ⟨0, 10, 17, 15⟩] ⟨0, 10, 21, 29⟩ [] htab (List.forall_mem_cons.mpr ⟨Or.inr ⟨by decide, _, F.1.2.2.2.2 _ kl_L_13, X.2.2.2.1⟩, (List.forall_mem_cons.mpr ⟨Or.inr ⟨by decide, _, F.1.2.2.2.2 _ kl_L_15, X.2.2.2.2.1⟩, (fun _ h => nomatch h)⟩)⟩) rfl (by decide) (F.1.2.2.2.2 _ kl_L_29) (va_Nw.use rfl X.1.2.2.2.2.2.2.1) h1 h2 h3 ?_
      refine lv_astore (lv' := [(4, .ref q9), (0, .ref (a 0)), (1, .int x1), (2, .int x2), (3, .ref (a 65))]) hx hb dL_arrange_21 hl (by decide) rfl (fun ls hl => ?_)
      refine lv_iconst (v := 3) hx hb dL_arrange_23 (by decide) ?_
      exact hq _ _ _ _ _ _ (Nat.le_of_ble_eq_true rfl) (Nat.le_of_ble_eq_true rfl) hI dL_arrange_24
  · subst hk
    refine lv_i2l hx hb dL_arrange_8 rfl ?_
    refine g_wlast F hI dL_arrange_9 (fun H locs hI => ?_)
    refine lv_goto (tgt := 25) hx hb dL_arrange_10 (by decide) ?_
    refine lv_iconst (v := 0) hx hb dL_arrange_25 (by decide) ?_
    exact hq _ _ _ _ _ _ (Nat.le_of_ble_eq_true rfl) (Nat.le_of_ble_eq_true rfl) hI dL_arrange_26
def f_L_enter (k : Nat) : Int32 := if k = 0 then 0 else if k = 1 then 1 else if k = 2 then 2 else 3
def o_L_enter (k : Nat) (r : Int32) (f : Nat → Int64) : Nat → Int64 := if k = 0 then vp_updL f 0 r.toInt64 else f
abbrev rmL_enter : Room := { frames := 9, cells := 4, slots := 24, locals := 145 }
set_option maxRecDepth 100000 in
set_option maxHeartbeats 4000000 in
theorem c_L_enter (l : Launch) (D : va_G) (a : Nat → Nat) (cI cJ : ClassId) (hj : g_Inj 66 a) (hlt : l.stackTraces = false) (sa : Nat → Nat) (x1 x2 : Int32) (σ : gSt) (f : Nat → Int64) (out : Nat × Int32 × gSt) (hh : f_X9_enter σ x1 x2 = out) (hkk : out.1 = 0 ∨ out.1 = 1 ∨ out.1 = 2 ∨ out.1 = 3) : Met l yL_enter (Cond.codeWith yL_enter cL_enter 5 (some .int) [(0, 10, 13, 13), (0, 10, 17, 15), (0, 10, 21, 29)] :: gW) rmL_enter (g_PcL D a (wE a cI cJ σ f) [(cI, .int), (cJ, .long)] sa [.ref (a 0), .int x1, .int x2, .ref (a 65)]) (g_Qi 66 D a (wE a cI cJ out.2.2 (o_L_enter out.1 out.2.1 f)) (f_L_enter out.1)) 4 24 (g_Own 66 a) := by
  obtain ⟨k, r, σ'⟩ := out
  refine g_metL (by decide) hj (Nat.le_of_ble_eq_true rfl) ?_
  intro p e s m args below meth c Q ls F X htab hl hI hq
  have hx := F.1.1
  have hb := F.1.2.1
  have hl : lv_has ls 5 [(0, .ref (a 0)), (1, .int x1), (2, .int x2), (3, .ref (a 65))] := hl
  refine lv_aload_n hx hb dL_enter_0 rfl (lv_at hl 3 rfl) ?_
  refine lv_iconst (v := 0) hx hb dL_enter_1 (by decide) ?_
  refine lv_aload_n hx hb dL_enter_2 rfl (lv_at hl 0 rfl) ?_
  refine lv_iload_n hx hb dL_enter_3 rfl (lv_at hl 1 rfl) ?_
  refine lv_iload_n hx hb dL_enter_4 rfl (lv_at hl 2 rfl) ?_
  have hM := c_X9_enter l D a cI (g_inj_sub (by decide) F.2.2) hlt sa σ x1 x2
  rw [hh] at hM
  refine g_callXWi (σ' := σ') (k := k) (r := r) (As := [.int x1, .int x2]) (rest := [.int 0, .ref (a 65)]) F X hI hM kb_X9_enter ki_X9_enter ks_X9_enter km_L_37 ⟨(Nat.le_of_ble_eq_true rfl), (Nat.le_of_ble_eq_true rfl), rfl, rfl⟩ hl.1 rfl (Nat.le_of_ble_eq_true rfl) ⟨(Nat.le_of_ble_eq_true rfl), (Nat.le_of_ble_eq_true rfl)⟩ dL_enter_5 (fun H locs ce q9 hk hI h1 h2 h3 => ?_) (fun H locs hk hI => ?_)
  · rcases hkk with h0 | h0 | h0 | h0
    · exact absurd h0 hk
    · have h0 : k = 1 := h0
      subst h0
      refine vx_catch (own := RL) (name := "java/lang/IndexOutOfBoundsException") F.1.2.2.2.1 [] ⟨0, 10, 13, 13⟩ [⟨0, 10, 17, 15⟩, ⟨0, 10, 21, 29⟩] htab (fun _ h => nomatch h) rfl (by decide) (F.1.2.2.2.2 _ kl_L_13) (va_Nw.use rfl X.1.2.2.2.2.1) h1 h2 h3 ?_
      refine lv_astore (lv' := [(4, .ref q9), (0, .ref (a 0)), (1, .int x1), (2, .int x2), (3, .ref (a 65))]) hx hb dL_enter_13 hl (by decide) rfl (fun ls hl => ?_)
      refine lv_iconst (v := 1) hx hb dL_enter_15 (by decide) ?_
      exact hq _ _ _ _ _ _ (Nat.le_of_ble_eq_true rfl) (Nat.le_of_ble_eq_true rfl) hI dL_enter_16
    · have h0 : k = 2 := h0
      subst h0
      refine vx_catch (own := RL) (name := "java/lang/IllegalArgumentException") F.1.2.2.2.1 [⟨0, 10, 13, 13⟩] ⟨0, 10, 17, 15⟩ [⟨0, 10, 21, 29⟩] htab (List.forall_mem_cons.mpr ⟨Or.inr ⟨by decide, _, F.1.2.2.2.2 _ kl_L_13, X.2.2.1⟩, (fun _ h => nomatch h)⟩) rfl (by decide) (F.1.2.2.2.2 _ kl_L_15) (va_Nw.use rfl X.1.2.2.2.2.2.1) h1 h2 h3 ?_
      refine lv_astore (lv' := [(4, .ref q9), (0, .ref (a 0)), (1, .int x1), (2, .int x2), (3, .ref (a 65))]) hx hb dL_enter_17 hl (by decide) rfl (fun ls hl => ?_)
      refine lv_iconst (v := 2) hx hb dL_enter_19 (by decide) ?_
      exact hq _ _ _ _ _ _ (Nat.le_of_ble_eq_true rfl) (Nat.le_of_ble_eq_true rfl) hI dL_enter_20
    · have h0 : k = 3 := h0
      subst h0
      refine vx_catch (own := RL) (name := "java/lang/IllegalStateException") F.1.2.2.2.1 [⟨0, 10, 13, 13⟩, ⟨0, 10, 17, 15⟩] ⟨0, 10, 21, 29⟩ [] htab (List.forall_mem_cons.mpr ⟨Or.inr ⟨by decide, _, F.1.2.2.2.2 _ kl_L_13, X.2.2.2.1⟩, (List.forall_mem_cons.mpr ⟨Or.inr ⟨by decide, _, F.1.2.2.2.2 _ kl_L_15, X.2.2.2.2.1⟩, (fun _ h => nomatch h)⟩)⟩) rfl (by decide) (F.1.2.2.2.2 _ kl_L_29) (va_Nw.use rfl X.1.2.2.2.2.2.2.1) h1 h2 h3 ?_
      refine lv_astore (lv' := [(4, .ref q9), (0, .ref (a 0)), (1, .int x1), (2, .int x2), (3, .ref (a 65))]) hx hb dL_enter_21 hl (by decide) rfl (fun ls hl => ?_)
      refine lv_iconst (v := 3) hx hb dL_enter_23 (by decide) ?_
      exact hq _ _ _ _ _ _ (Nat.le_of_ble_eq_true rfl) (Nat.le_of_ble_eq_true rfl) hI dL_enter_24
  · subst hk
    refine lv_i2l hx hb dL_enter_8 rfl ?_
    refine g_wlast F hI dL_enter_9 (fun H locs hI => ?_)
    refine lv_goto (tgt := 25) hx hb dL_enter_10 (by decide) ?_
    refine lv_iconst (v := 0) hx hb dL_enter_25 (by decide) ?_
    exact hq _ _ _ _ _ _ (Nat.le_of_ble_eq_true rfl) (Nat.le_of_ble_eq_true rfl) hI dL_enter_26
def f_L_draw (k : Nat) : Int32 := if k = 0 then 0 else if k = 2 then 1 else 2
def o_L_draw (k : Nat) (r : Int32) (f : Nat → Int64) : Nat → Int64 := if k = 0 then vp_updL f 0 r.toInt64 else f
abbrev rmL_draw : Room := { frames := 8, cells := 3, slots := 18, locals := 126 }
set_option maxRecDepth 100000 in
set_option maxHeartbeats 4000000 in
theorem c_L_draw (l : Launch) (D : va_G) (a : Nat → Nat) (cI cJ : ClassId) (hj : g_Inj 66 a) (hlt : l.stackTraces = false) (sa : Nat → Nat) (N : Nat) (x1 x2 : Int32) (σ : gSt) (f : Nat → Int64) (out : Nat × Int32 × gSt) (hh : f_X9_draw N σ x1 x2 = some out) (hkk : out.1 = 0 ∨ out.1 = 2 ∨ out.1 = 3) : Met l yL_draw (Cond.codeWith yL_draw cL_draw 5 (some .int) [(0, 10, 13, 15), (0, 10, 17, 29)] :: gW) rmL_draw (g_PcL D a (wE a cI cJ σ f) [(cI, .int), (cJ, .long)] sa [.ref (a 0), .int x1, .int x2, .ref (a 65)]) (g_Qi 66 D a (wE a cI cJ out.2.2 (o_L_draw out.1 out.2.1 f)) (f_L_draw out.1)) 3 18 (g_Own 66 a) := by
  obtain ⟨k, r, σ'⟩ := out
  refine g_metL (by decide) hj (Nat.le_of_ble_eq_true rfl) ?_
  intro p e s m args below meth c Q ls F X htab hl hI hq
  have hx := F.1.1
  have hb := F.1.2.1
  have hl : lv_has ls 5 [(0, .ref (a 0)), (1, .int x1), (2, .int x2), (3, .ref (a 65))] := hl
  refine lv_aload_n hx hb dL_draw_0 rfl (lv_at hl 3 rfl) ?_
  refine lv_iconst (v := 0) hx hb dL_draw_1 (by decide) ?_
  refine lv_aload_n hx hb dL_draw_2 rfl (lv_at hl 0 rfl) ?_
  refine lv_iload_n hx hb dL_draw_3 rfl (lv_at hl 1 rfl) ?_
  refine lv_iload_n hx hb dL_draw_4 rfl (lv_at hl 2 rfl) ?_
  refine g_callXWi (σ' := σ') (k := k) (r := r) (As := [.int x1, .int x2]) (rest := [.int 0, .ref (a 65)]) F X hI (c_X9_draw l D a cI (g_inj_sub (by decide) F.2.2) hlt sa N σ x1 x2 _ hh) kb_X9_draw ki_X9_draw ks_X9_draw km_L_40 ⟨(Nat.le_of_ble_eq_true rfl), (Nat.le_of_ble_eq_true rfl), rfl, rfl⟩ hl.1 rfl (Nat.le_of_ble_eq_true rfl) ⟨(Nat.le_of_ble_eq_true rfl), (Nat.le_of_ble_eq_true rfl)⟩ dL_draw_5 (fun H locs ce q9 hk hI h1 h2 h3 => ?_) (fun H locs hk hI => ?_)
  · rcases hkk with h0 | h0 | h0
    · exact absurd h0 hk
    · have h0 : k = 2 := h0
      subst h0
      refine vx_catch (own := RL) (name := "java/lang/IllegalArgumentException") F.1.2.2.2.1 [] ⟨0, 10, 13, 15⟩ [⟨0, 10, 17, 29⟩] htab (fun _ h => nomatch h) rfl (by decide) (F.1.2.2.2.2 _ kl_L_15) (va_Nw.use rfl X.1.2.2.2.2.2.1) h1 h2 h3 ?_
      refine lv_astore (lv' := [(4, .ref q9), (0, .ref (a 0)), (1, .int x1), (2, .int x2), (3, .ref (a 65))]) hx hb dL_draw_13 hl (by decide) rfl (fun ls hl => ?_)
      refine lv_iconst (v := 1) hx hb dL_draw_15 (by decide) ?_
      exact hq _ _ _ _ _ _ (Nat.le_of_ble_eq_true rfl) (Nat.le_of_ble_eq_true rfl) hI dL_draw_16
    · have h0 : k = 3 := h0
      subst h0
      refine vx_catch (own := RL) (name := "java/lang/IllegalStateException") F.1.2.2.2.1 [⟨0, 10, 13, 15⟩] ⟨0, 10, 17, 29⟩ [] htab (List.forall_mem_cons.mpr ⟨Or.inr ⟨by decide, _, F.1.2.2.2.2 _ kl_L_15, X.2.2.2.2.1⟩, (fun _ h => nomatch h)⟩) rfl (by decide) (F.1.2.2.2.2 _ kl_L_29) (va_Nw.use rfl X.1.2.2.2.2.2.2.1) h1 h2 h3 ?_
      refine lv_astore (lv' := [(4, .ref q9), (0, .ref (a 0)), (1, .int x1), (2, .int x2), (3, .ref (a 65))]) hx hb dL_draw_17 hl (by decide) rfl (fun ls hl => ?_)
      refine lv_iconst (v := 2) hx hb dL_draw_19 (by decide) ?_
      exact hq _ _ _ _ _ _ (Nat.le_of_ble_eq_true rfl) (Nat.le_of_ble_eq_true rfl) hI dL_draw_20
  · subst hk
    refine lv_i2l hx hb dL_draw_8 rfl ?_
    refine g_wlast F hI dL_draw_9 (fun H locs hI => ?_)
    refine lv_goto (tgt := 21) hx hb dL_draw_10 (by decide) ?_
    refine lv_iconst (v := 0) hx hb dL_draw_21 (by decide) ?_
    exact hq _ _ _ _ _ _ (Nat.le_of_ble_eq_true rfl) (Nat.le_of_ble_eq_true rfl) hI dL_draw_22
def f_L_punch (k : Nat) : Int32 := if k = 0 then 0 else if k = 1 then 1 else if k = 3 then 2 else 3
def o_L_punch (k : Nat) (r : Int32) (f : Nat → Int64) : Nat → Int64 := if k = 0 then vp_updL f 0 r.toInt64 else f
abbrev rmL_punch : Room := { frames := 9, cells := 4, slots := 24, locals := 147 }
set_option maxRecDepth 100000 in
set_option maxHeartbeats 4000000 in
theorem c_L_punch (l : Launch) (D : va_G) (a : Nat → Nat) (cI cJ : ClassId) (hj : g_Inj 66 a) (hlt : l.stackTraces = false) (sa : Nat → Nat) (N : Nat) (x1 x2 x3 : Int32) (σ : gSt) (f : Nat → Int64) (out : Nat × Int32 × gSt) (hh : f_X9_punch N σ x1 x2 x3 = some out) (hkk : out.1 = 0 ∨ out.1 = 1 ∨ out.1 = 3 ∨ out.1 = 2) : Met l yL_punch (Cond.codeWith yL_punch cL_punch 6 (some .int) [(0, 12, 15, 13), (0, 12, 19, 29), (0, 12, 23, 15)] :: gW) rmL_punch (g_PcL D a (wE a cI cJ σ f) [(cI, .int), (cJ, .long)] sa [.ref (a 0), .int x1, .int x2, .int x3, .ref (a 65)]) (g_Qi 66 D a (wE a cI cJ out.2.2 (o_L_punch out.1 out.2.1 f)) (f_L_punch out.1)) 4 24 (g_Own 66 a) := by
  obtain ⟨k, r, σ'⟩ := out
  refine g_metL (by decide) hj (Nat.le_of_ble_eq_true rfl) ?_
  intro p e s m args below meth c Q ls F X htab hl hI hq
  have hx := F.1.1
  have hb := F.1.2.1
  have hl : lv_has ls 6 [(0, .ref (a 0)), (1, .int x1), (2, .int x2), (3, .int x3), (4, .ref (a 65))] := hl
  refine lv_aload hx hb dL_punch_0 (lv_at hl 4 rfl) ?_
  refine lv_iconst (v := 0) hx hb dL_punch_2 (by decide) ?_
  refine lv_aload_n hx hb dL_punch_3 rfl (lv_at hl 0 rfl) ?_
  refine lv_iload_n hx hb dL_punch_4 rfl (lv_at hl 1 rfl) ?_
  refine lv_iload_n hx hb dL_punch_5 rfl (lv_at hl 2 rfl) ?_
  refine lv_iload_n hx hb dL_punch_6 rfl (lv_at hl 3 rfl) ?_
  refine g_callXWi (σ' := σ') (k := k) (r := r) (As := [.int x1, .int x2, .int x3]) (rest := [.int 0, .ref (a 65)]) F X hI (c_X9_punch l D a cI (g_inj_sub (by decide) F.2.2) hlt sa N σ x1 x2 x3 _ hh) kb_X9_punch ki_X9_punch ks_X9_punch km_L_43 ⟨(Nat.le_of_ble_eq_true rfl), (Nat.le_of_ble_eq_true rfl), rfl, rfl⟩ hl.1 rfl (Nat.le_of_ble_eq_true rfl) ⟨(Nat.le_of_ble_eq_true rfl), (Nat.le_of_ble_eq_true rfl)⟩ dL_punch_7 (fun H locs ce q9 hk hI h1 h2 h3 => ?_) (fun H locs hk hI => ?_)
  · rcases hkk with h0 | h0 | h0 | h0
    · exact absurd h0 hk
    · have h0 : k = 1 := h0
      subst h0
      refine vx_catch (own := RL) (name := "java/lang/IndexOutOfBoundsException") F.1.2.2.2.1 [] ⟨0, 12, 15, 13⟩ [⟨0, 12, 19, 29⟩, ⟨0, 12, 23, 15⟩] htab (fun _ h => nomatch h) rfl (by decide) (F.1.2.2.2.2 _ kl_L_13) (va_Nw.use rfl X.1.2.2.2.2.1) h1 h2 h3 ?_
      refine lv_astore (lv' := [(5, .ref q9), (0, .ref (a 0)), (1, .int x1), (2, .int x2), (3, .int x3), (4, .ref (a 65))]) hx hb dL_punch_15 hl (by decide) rfl (fun ls hl => ?_)
      refine lv_iconst (v := 1) hx hb dL_punch_17 (by decide) ?_
      exact hq _ _ _ _ _ _ (Nat.le_of_ble_eq_true rfl) (Nat.le_of_ble_eq_true rfl) hI dL_punch_18
    · have h0 : k = 3 := h0
      subst h0
      refine vx_catch (own := RL) (name := "java/lang/IllegalStateException") F.1.2.2.2.1 [⟨0, 12, 15, 13⟩] ⟨0, 12, 19, 29⟩ [⟨0, 12, 23, 15⟩] htab (List.forall_mem_cons.mpr ⟨Or.inr ⟨by decide, _, F.1.2.2.2.2 _ kl_L_13, X.2.2.2.1⟩, (fun _ h => nomatch h)⟩) rfl (by decide) (F.1.2.2.2.2 _ kl_L_29) (va_Nw.use rfl X.1.2.2.2.2.2.2.1) h1 h2 h3 ?_
      refine lv_astore (lv' := [(5, .ref q9), (0, .ref (a 0)), (1, .int x1), (2, .int x2), (3, .int x3), (4, .ref (a 65))]) hx hb dL_punch_19 hl (by decide) rfl (fun ls hl => ?_)
      refine lv_iconst (v := 2) hx hb dL_punch_21 (by decide) ?_
      exact hq _ _ _ _ _ _ (Nat.le_of_ble_eq_true rfl) (Nat.le_of_ble_eq_true rfl) hI dL_punch_22
    · have h0 : k = 2 := h0
      subst h0
      refine vx_catch (own := RL) (name := "java/lang/IllegalArgumentException") F.1.2.2.2.1 [⟨0, 12, 15, 13⟩, ⟨0, 12, 19, 29⟩] ⟨0, 12, 23, 15⟩ [] htab (List.forall_mem_cons.mpr ⟨Or.inr ⟨by decide, _, F.1.2.2.2.2 _ kl_L_13, X.2.2.1⟩, (List.forall_mem_cons.mpr ⟨Or.inr ⟨by decide, _, F.1.2.2.2.2 _ kl_L_29, X.2.2.2.2.2⟩, (fun _ h => nomatch h)⟩)⟩) rfl (by decide) (F.1.2.2.2.2 _ kl_L_15) (va_Nw.use rfl X.1.2.2.2.2.2.1) h1 h2 h3 ?_
      refine lv_astore (lv' := [(5, .ref q9), (0, .ref (a 0)), (1, .int x1), (2, .int x2), (3, .int x3), (4, .ref (a 65))]) hx hb dL_punch_23 hl (by decide) rfl (fun ls hl => ?_)
      refine lv_iconst (v := 3) hx hb dL_punch_25 (by decide) ?_
      exact hq _ _ _ _ _ _ (Nat.le_of_ble_eq_true rfl) (Nat.le_of_ble_eq_true rfl) hI dL_punch_26
  · subst hk
    refine lv_i2l hx hb dL_punch_10 rfl ?_
    refine g_wlast F hI dL_punch_11 (fun H locs hI => ?_)
    refine lv_goto (tgt := 27) hx hb dL_punch_12 (by decide) ?_
    refine lv_iconst (v := 0) hx hb dL_punch_27 (by decide) ?_
    exact hq _ _ _ _ _ _ (Nat.le_of_ble_eq_true rfl) (Nat.le_of_ble_eq_true rfl) hI dL_punch_28
def f_L_fail (k : Nat) : Int32 := if k = 0 then 0 else if k = 1 then 1 else 2
def o_L_fail (k : Nat) (r : Int32) (f : Nat → Int64) : Nat → Int64 := if k = 0 then vp_updL f 0 (if r = 0 then 0 else 1) else f
abbrev rmL_fail : Room := { frames := 9, cells := 2, slots := 12, locals := 146 }
set_option maxRecDepth 100000 in
set_option maxHeartbeats 4000000 in
theorem c_L_fail (l : Launch) (D : va_G) (a : Nat → Nat) (cI cJ : ClassId) (hj : g_Inj 66 a) (hlt : l.stackTraces = false) (sa : Nat → Nat) (N : Nat) (x1 x2 : Int32) (σ : gSt) (f : Nat → Int64) (out : Nat × Int32 × gSt) (hh : f_X9_fail N σ x1 x2 = some out) (hkk : out.1 = 0 ∨ out.1 = 1 ∨ out.1 = 3) : Met l yL_fail (Cond.codeWith yL_fail cL_fail 5 (some .int) [(0, 17, 20, 13), (0, 17, 24, 29)] :: gW) rmL_fail (g_PcL D a (wE a cI cJ σ f) [(cI, .int), (cJ, .long)] sa [.ref (a 0), .int x1, .int x2, .ref (a 65)]) (g_Qi 66 D a (wE a cI cJ out.2.2 (o_L_fail out.1 out.2.1 f)) (f_L_fail out.1)) 2 12 (g_Own 66 a) := by
  obtain ⟨k, r, σ'⟩ := out
  refine g_metL (by decide) hj (Nat.le_of_ble_eq_true rfl) ?_
  intro p e s m args below meth c Q ls F X htab hl hI hq
  have hx := F.1.1
  have hb := F.1.2.1
  have hl : lv_has ls 5 [(0, .ref (a 0)), (1, .int x1), (2, .int x2), (3, .ref (a 65))] := hl
  refine lv_aload_n hx hb dL_fail_0 rfl (lv_at hl 3 rfl) ?_
  refine lv_iconst (v := 0) hx hb dL_fail_1 (by decide) ?_
  refine lv_aload_n hx hb dL_fail_2 rfl (lv_at hl 0 rfl) ?_
  refine lv_iload_n hx hb dL_fail_3 rfl (lv_at hl 1 rfl) ?_
  refine lv_iload_n hx hb dL_fail_4 rfl (lv_at hl 2 rfl) ?_
  refine g_callXWi (σ' := σ') (k := k) (r := r) (As := [.int x1, .int x2]) (rest := [.int 0, .ref (a 65)]) F X hI (c_X9_fail l D a cI (g_inj_sub (by decide) F.2.2) hlt sa N σ x1 x2 _ hh) kb_X9_fail ki_X9_fail ks_X9_fail km_L_46 ⟨(Nat.le_of_ble_eq_true rfl), (Nat.le_of_ble_eq_true rfl), rfl, rfl⟩ hl.1 rfl (Nat.le_of_ble_eq_true rfl) ⟨(Nat.le_of_ble_eq_true rfl), (Nat.le_of_ble_eq_true rfl)⟩ dL_fail_5 (fun H locs ce q9 hk hI h1 h2 h3 => ?_) (fun H locs hk hI => ?_)
  · rcases hkk with h0 | h0 | h0
    · exact absurd h0 hk
    · have h0 : k = 1 := h0
      subst h0
      refine vx_catch (own := RL) (name := "java/lang/IndexOutOfBoundsException") F.1.2.2.2.1 [] ⟨0, 17, 20, 13⟩ [⟨0, 17, 24, 29⟩] htab (fun _ h => nomatch h) rfl (by decide) (F.1.2.2.2.2 _ kl_L_13) (va_Nw.use rfl X.1.2.2.2.2.1) h1 h2 h3 ?_
      refine lv_astore (lv' := [(4, .ref q9), (0, .ref (a 0)), (1, .int x1), (2, .int x2), (3, .ref (a 65))]) hx hb dL_fail_20 hl (by decide) rfl (fun ls hl => ?_)
      refine lv_iconst (v := 1) hx hb dL_fail_22 (by decide) ?_
      exact hq _ _ _ _ _ _ (Nat.le_of_ble_eq_true rfl) (Nat.le_of_ble_eq_true rfl) hI dL_fail_23
    · have h0 : k = 3 := h0
      subst h0
      refine vx_catch (own := RL) (name := "java/lang/IllegalStateException") F.1.2.2.2.1 [⟨0, 17, 20, 13⟩] ⟨0, 17, 24, 29⟩ [] htab (List.forall_mem_cons.mpr ⟨Or.inr ⟨by decide, _, F.1.2.2.2.2 _ kl_L_13, X.2.2.2.1⟩, (fun _ h => nomatch h)⟩) rfl (by decide) (F.1.2.2.2.2 _ kl_L_29) (va_Nw.use rfl X.1.2.2.2.2.2.2.1) h1 h2 h3 ?_
      refine lv_astore (lv' := [(4, .ref q9), (0, .ref (a 0)), (1, .int x1), (2, .int x2), (3, .ref (a 65))]) hx hb dL_fail_24 hl (by decide) rfl (fun ls hl => ?_)
      refine lv_iconst (v := 2) hx hb dL_fail_26 (by decide) ?_
      exact hq _ _ _ _ _ _ (Nat.le_of_ble_eq_true rfl) (Nat.le_of_ble_eq_true rfl) hI dL_fail_27
  · subst hk
    refine lv_if_eq (tgt := 15) hx hb dL_fail_8 (by decide) (fun c1 => ?_) (fun c1 => ?_)
    · refine lv_lconst (v := 0) hx hb dL_fail_15 rfl ?_
      refine g_wlast F hI dL_fail_16 (fun H locs hI => ?_)
      refine lv_goto (tgt := 28) hx hb dL_fail_17 (by decide) ?_
      refine lv_iconst (v := 0) hx hb dL_fail_28 (by decide) ?_
      exact hq _ _ _ _ _ _ (Nat.le_of_ble_eq_true rfl) (Nat.le_of_ble_eq_true rfl) (by rw [show o_L_fail 0 r f = vp_updL f 0 0 from by unfold o_L_fail; rw [if_pos rfl, if_pos c1]]; exact hI) dL_fail_29
    · refine lv_lconst (v := 1) hx hb dL_fail_11 rfl ?_
      refine lv_goto (tgt := 16) hx hb dL_fail_12 (by decide) ?_
      refine g_wlast F hI dL_fail_16 (fun H locs hI => ?_)
      refine lv_goto (tgt := 28) hx hb dL_fail_17 (by decide) ?_
      refine lv_iconst (v := 0) hx hb dL_fail_28 (by decide) ?_
      exact hq _ _ _ _ _ _ (Nat.le_of_ble_eq_true rfl) (Nat.le_of_ble_eq_true rfl) (by rw [show o_L_fail 0 r f = vp_updL f 0 1 from by unfold o_L_fail; rw [if_pos rfl, if_neg c1]]; exact hI) dL_fail_29
def f_L_cell_ (k : Nat) : Int32 := if k = 0 then 0 else 1
def o_L_cell_ (k : Nat) (r : Int32) (f : Nat → Int64) : Nat → Int64 := if k = 0 then vp_updL f 0 r.toInt64 else f
abbrev rmL_cell_ : Room := { frames := 8, cells := 1, slots := 6, locals := 127 }
set_option maxRecDepth 100000 in
set_option maxHeartbeats 4000000 in
theorem c_L_cell_ (l : Launch) (D : va_G) (a : Nat → Nat) (cI cJ : ClassId) (hj : g_Inj 66 a) (hlt : l.stackTraces = false) (sa : Nat → Nat) (x1 x2 : Int32) (σ : gSt) (f : Nat → Int64) (out : Nat × Int32 × gSt) (hh : f_X9_cell σ x1 x2 = out) (hkk : out.1 = 0 ∨ out.1 = 1) : Met l yL_cell_ (Cond.codeWith yL_cell_ cL_cell_ 5 (some .int) [(0, 10, 13, 13)] :: gW) rmL_cell_ (g_PcL D a (wE a cI cJ σ f) [(cI, .int), (cJ, .long)] sa [.ref (a 0), .int x1, .int x2, .ref (a 65)]) (g_Qi 66 D a (wE a cI cJ out.2.2 (o_L_cell_ out.1 out.2.1 f)) (f_L_cell_ out.1)) 1 6 (g_Own 66 a) := by
  obtain ⟨k, r, σ'⟩ := out
  refine g_metL (by decide) hj (Nat.le_of_ble_eq_true rfl) ?_
  intro p e s m args below meth c Q ls F X htab hl hI hq
  have hx := F.1.1
  have hb := F.1.2.1
  have hl : lv_has ls 5 [(0, .ref (a 0)), (1, .int x1), (2, .int x2), (3, .ref (a 65))] := hl
  refine lv_aload_n hx hb dL_cell__0 rfl (lv_at hl 3 rfl) ?_
  refine lv_iconst (v := 0) hx hb dL_cell__1 (by decide) ?_
  refine lv_aload_n hx hb dL_cell__2 rfl (lv_at hl 0 rfl) ?_
  refine lv_iload_n hx hb dL_cell__3 rfl (lv_at hl 1 rfl) ?_
  refine lv_iload_n hx hb dL_cell__4 rfl (lv_at hl 2 rfl) ?_
  have hM := c_X9_cell l D a cI (g_inj_sub (by decide) F.2.2) hlt sa σ x1 x2
  rw [hh] at hM
  refine g_callXWi (σ' := σ') (k := k) (r := r) (As := [.int x1, .int x2]) (rest := [.int 0, .ref (a 65)]) F X hI hM kb_X9_cell ki_X9_cell ks_X9_cell km_L_50 ⟨(Nat.le_of_ble_eq_true rfl), (Nat.le_of_ble_eq_true rfl), rfl, rfl⟩ hl.1 rfl (Nat.le_of_ble_eq_true rfl) ⟨(Nat.le_of_ble_eq_true rfl), (Nat.le_of_ble_eq_true rfl)⟩ dL_cell__5 (fun H locs ce q9 hk hI h1 h2 h3 => ?_) (fun H locs hk hI => ?_)
  · rcases hkk with h0 | h0
    · exact absurd h0 hk
    · have h0 : k = 1 := h0
      subst h0
      refine vx_catch (own := RL) (name := "java/lang/IndexOutOfBoundsException") F.1.2.2.2.1 [] ⟨0, 10, 13, 13⟩ [] htab (fun _ h => nomatch h) rfl (by decide) (F.1.2.2.2.2 _ kl_L_13) (va_Nw.use rfl X.1.2.2.2.2.1) h1 h2 h3 ?_
      refine lv_astore (lv' := [(4, .ref q9), (0, .ref (a 0)), (1, .int x1), (2, .int x2), (3, .ref (a 65))]) hx hb dL_cell__13 hl (by decide) rfl (fun ls hl => ?_)
      refine lv_iconst (v := 1) hx hb dL_cell__15 (by decide) ?_
      exact hq _ _ _ _ _ _ (Nat.le_of_ble_eq_true rfl) (Nat.le_of_ble_eq_true rfl) hI dL_cell__16
  · subst hk
    refine lv_i2l hx hb dL_cell__8 rfl ?_
    refine g_wlast F hI dL_cell__9 (fun H locs hI => ?_)
    refine lv_goto (tgt := 17) hx hb dL_cell__10 (by decide) ?_
    refine lv_iconst (v := 0) hx hb dL_cell__17 (by decide) ?_
    exact hq _ _ _ _ _ _ (Nat.le_of_ble_eq_true rfl) (Nat.le_of_ble_eq_true rfl) hI dL_cell__18
def f_L_lines (k : Nat) : Int32 := if k = 0 then 0 else 1
def o_L_lines (k : Nat) (r : Int32) (f : Nat → Int64) : Nat → Int64 := if k = 0 then vp_updL f 0 r.toInt64 else f
abbrev rmL_lines : Room := { frames := 8, cells := 1, slots := 6, locals := 157 }
set_option maxRecDepth 100000 in
set_option maxHeartbeats 4000000 in
theorem c_L_lines (l : Launch) (D : va_G) (a : Nat → Nat) (cI cJ : ClassId) (hj : g_Inj 66 a) (hlt : l.stackTraces = false) (sa : Nat → Nat) (N : Nat) (x1 : Int32) (σ : gSt) (f : Nat → Int64) (out : Nat × Int32 × gSt) (hh : f_X9_lines N σ x1 = some out) (hkk : out.1 = 0 ∨ out.1 = 2) : Met l yL_lines (Cond.codeWith yL_lines cL_lines 4 (some .int) [(0, 9, 12, 15)] :: gW) rmL_lines (g_PcL D a (wE a cI cJ σ f) [(cI, .int), (cJ, .long)] sa [.ref (a 0), .int x1, .ref (a 65)]) (g_Qi 66 D a (wE a cI cJ out.2.2 (o_L_lines out.1 out.2.1 f)) (f_L_lines out.1)) 1 6 (g_Own 66 a) := by
  obtain ⟨k, r, σ'⟩ := out
  refine g_metL (by decide) hj (Nat.le_of_ble_eq_true rfl) ?_
  intro p e s m args below meth c Q ls F X htab hl hI hq
  have hx := F.1.1
  have hb := F.1.2.1
  have hl : lv_has ls 4 [(0, .ref (a 0)), (1, .int x1), (2, .ref (a 65))] := hl
  refine lv_aload_n hx hb dL_lines_0 rfl (lv_at hl 2 rfl) ?_
  refine lv_iconst (v := 0) hx hb dL_lines_1 (by decide) ?_
  refine lv_aload_n hx hb dL_lines_2 rfl (lv_at hl 0 rfl) ?_
  refine lv_iload_n hx hb dL_lines_3 rfl (lv_at hl 1 rfl) ?_
  refine g_callXWi (σ' := σ') (k := k) (r := r) (As := [.int x1]) (rest := [.int 0, .ref (a 65)]) F X hI (c_X9_lines l D a cI (g_inj_sub (by decide) F.2.2) hlt sa N σ x1 _ hh) kb_X9_lines ki_X9_lines ks_X9_lines km_L_53 ⟨(Nat.le_of_ble_eq_true rfl), (Nat.le_of_ble_eq_true rfl), rfl, rfl⟩ hl.1 rfl (Nat.le_of_ble_eq_true rfl) ⟨(Nat.le_of_ble_eq_true rfl), (Nat.le_of_ble_eq_true rfl)⟩ dL_lines_4 (fun H locs ce q9 hk hI h1 h2 h3 => ?_) (fun H locs hk hI => ?_)
  · rcases hkk with h0 | h0
    · exact absurd h0 hk
    · have h0 : k = 2 := h0
      subst h0
      refine vx_catch (own := RL) (name := "java/lang/IllegalArgumentException") F.1.2.2.2.1 [] ⟨0, 9, 12, 15⟩ [] htab (fun _ h => nomatch h) rfl (by decide) (F.1.2.2.2.2 _ kl_L_15) (va_Nw.use rfl X.1.2.2.2.2.2.1) h1 h2 h3 ?_
      refine lv_astore_n (lv' := [(3, .ref q9), (0, .ref (a 0)), (1, .int x1), (2, .ref (a 65))]) hx hb dL_lines_12 rfl hl (by decide) rfl (fun ls hl => ?_)
      refine lv_iconst (v := 1) hx hb dL_lines_13 (by decide) ?_
      exact hq _ _ _ _ _ _ (Nat.le_of_ble_eq_true rfl) (Nat.le_of_ble_eq_true rfl) hI dL_lines_14
  · subst hk
    refine lv_i2l hx hb dL_lines_7 rfl ?_
    refine g_wlast F hI dL_lines_8 (fun H locs hI => ?_)
    refine lv_goto (tgt := 15) hx hb dL_lines_9 (by decide) ?_
    refine lv_iconst (v := 0) hx hb dL_lines_15 (by decide) ?_
    exact hq _ _ _ _ _ _ (Nat.le_of_ble_eq_true rfl) (Nat.le_of_ble_eq_true rfl) hI dL_lines_16
def f_L_rings (k : Nat) : Int32 := if k = 0 then 0 else 1
def o_L_rings (k : Nat) (r : Int32) (f : Nat → Int64) : Nat → Int64 := if k = 0 then vp_updL f 0 r.toInt64 else f
abbrev rmL_rings : Room := { frames := 8, cells := 1, slots := 6, locals := 157 }
set_option maxRecDepth 100000 in
set_option maxHeartbeats 4000000 in
theorem c_L_rings (l : Launch) (D : va_G) (a : Nat → Nat) (cI cJ : ClassId) (hj : g_Inj 66 a) (hlt : l.stackTraces = false) (sa : Nat → Nat) (N : Nat) (x1 : Int32) (σ : gSt) (f : Nat → Int64) (out : Nat × Int32 × gSt) (hh : f_X9_rings N σ x1 = some out) (hkk : out.1 = 0 ∨ out.1 = 2) : Met l yL_rings (Cond.codeWith yL_rings cL_rings 4 (some .int) [(0, 9, 12, 15)] :: gW) rmL_rings (g_PcL D a (wE a cI cJ σ f) [(cI, .int), (cJ, .long)] sa [.ref (a 0), .int x1, .ref (a 65)]) (g_Qi 66 D a (wE a cI cJ out.2.2 (o_L_rings out.1 out.2.1 f)) (f_L_rings out.1)) 1 6 (g_Own 66 a) := by
  obtain ⟨k, r, σ'⟩ := out
  refine g_metL (by decide) hj (Nat.le_of_ble_eq_true rfl) ?_
  intro p e s m args below meth c Q ls F X htab hl hI hq
  have hx := F.1.1
  have hb := F.1.2.1
  have hl : lv_has ls 4 [(0, .ref (a 0)), (1, .int x1), (2, .ref (a 65))] := hl
  refine lv_aload_n hx hb dL_rings_0 rfl (lv_at hl 2 rfl) ?_
  refine lv_iconst (v := 0) hx hb dL_rings_1 (by decide) ?_
  refine lv_aload_n hx hb dL_rings_2 rfl (lv_at hl 0 rfl) ?_
  refine lv_iload_n hx hb dL_rings_3 rfl (lv_at hl 1 rfl) ?_
  refine g_callXWi (σ' := σ') (k := k) (r := r) (As := [.int x1]) (rest := [.int 0, .ref (a 65)]) F X hI (c_X9_rings l D a cI (g_inj_sub (by decide) F.2.2) hlt sa N σ x1 _ hh) kb_X9_rings ki_X9_rings ks_X9_rings km_L_57 ⟨(Nat.le_of_ble_eq_true rfl), (Nat.le_of_ble_eq_true rfl), rfl, rfl⟩ hl.1 rfl (Nat.le_of_ble_eq_true rfl) ⟨(Nat.le_of_ble_eq_true rfl), (Nat.le_of_ble_eq_true rfl)⟩ dL_rings_4 (fun H locs ce q9 hk hI h1 h2 h3 => ?_) (fun H locs hk hI => ?_)
  · rcases hkk with h0 | h0
    · exact absurd h0 hk
    · have h0 : k = 2 := h0
      subst h0
      refine vx_catch (own := RL) (name := "java/lang/IllegalArgumentException") F.1.2.2.2.1 [] ⟨0, 9, 12, 15⟩ [] htab (fun _ h => nomatch h) rfl (by decide) (F.1.2.2.2.2 _ kl_L_15) (va_Nw.use rfl X.1.2.2.2.2.2.1) h1 h2 h3 ?_
      refine lv_astore_n (lv' := [(3, .ref q9), (0, .ref (a 0)), (1, .int x1), (2, .ref (a 65))]) hx hb dL_rings_12 rfl hl (by decide) rfl (fun ls hl => ?_)
      refine lv_iconst (v := 1) hx hb dL_rings_13 (by decide) ?_
      exact hq _ _ _ _ _ _ (Nat.le_of_ble_eq_true rfl) (Nat.le_of_ble_eq_true rfl) hI dL_rings_14
  · subst hk
    refine lv_i2l hx hb dL_rings_7 rfl ?_
    refine g_wlast F hI dL_rings_8 (fun H locs hI => ?_)
    refine lv_goto (tgt := 15) hx hb dL_rings_9 (by decide) ?_
    refine lv_iconst (v := 0) hx hb dL_rings_15 (by decide) ?_
    exact hq _ _ _ _ _ _ (Nat.le_of_ble_eq_true rfl) (Nat.le_of_ble_eq_true rfl) hI dL_rings_16
def f_L_longest (k : Nat) : Int32 := if k = 0 then 0 else 1
def o_L_longest (k : Nat) (r : Int32) (f : Nat → Int64) : Nat → Int64 := if k = 0 then vp_updL f 0 r.toInt64 else f
abbrev rmL_longest : Room := { frames := 8, cells := 1, slots := 6, locals := 157 }
set_option maxRecDepth 100000 in
set_option maxHeartbeats 4000000 in
theorem c_L_longest (l : Launch) (D : va_G) (a : Nat → Nat) (cI cJ : ClassId) (hj : g_Inj 66 a) (hlt : l.stackTraces = false) (sa : Nat → Nat) (N : Nat) (x1 : Int32) (σ : gSt) (f : Nat → Int64) (out : Nat × Int32 × gSt) (hh : f_X9_longest N σ x1 = some out) (hkk : out.1 = 0 ∨ out.1 = 2) : Met l yL_longest (Cond.codeWith yL_longest cL_longest 4 (some .int) [(0, 9, 12, 15)] :: gW) rmL_longest (g_PcL D a (wE a cI cJ σ f) [(cI, .int), (cJ, .long)] sa [.ref (a 0), .int x1, .ref (a 65)]) (g_Qi 66 D a (wE a cI cJ out.2.2 (o_L_longest out.1 out.2.1 f)) (f_L_longest out.1)) 1 6 (g_Own 66 a) := by
  obtain ⟨k, r, σ'⟩ := out
  refine g_metL (by decide) hj (Nat.le_of_ble_eq_true rfl) ?_
  intro p e s m args below meth c Q ls F X htab hl hI hq
  have hx := F.1.1
  have hb := F.1.2.1
  have hl : lv_has ls 4 [(0, .ref (a 0)), (1, .int x1), (2, .ref (a 65))] := hl
  refine lv_aload_n hx hb dL_longest_0 rfl (lv_at hl 2 rfl) ?_
  refine lv_iconst (v := 0) hx hb dL_longest_1 (by decide) ?_
  refine lv_aload_n hx hb dL_longest_2 rfl (lv_at hl 0 rfl) ?_
  refine lv_iload_n hx hb dL_longest_3 rfl (lv_at hl 1 rfl) ?_
  refine g_callXWi (σ' := σ') (k := k) (r := r) (As := [.int x1]) (rest := [.int 0, .ref (a 65)]) F X hI (c_X9_longest l D a cI (g_inj_sub (by decide) F.2.2) hlt sa N σ x1 _ hh) kb_X9_longest ki_X9_longest ks_X9_longest km_L_60 ⟨(Nat.le_of_ble_eq_true rfl), (Nat.le_of_ble_eq_true rfl), rfl, rfl⟩ hl.1 rfl (Nat.le_of_ble_eq_true rfl) ⟨(Nat.le_of_ble_eq_true rfl), (Nat.le_of_ble_eq_true rfl)⟩ dL_longest_4 (fun H locs ce q9 hk hI h1 h2 h3 => ?_) (fun H locs hk hI => ?_)
  · rcases hkk with h0 | h0
    · exact absurd h0 hk
    · have h0 : k = 2 := h0
      subst h0
      refine vx_catch (own := RL) (name := "java/lang/IllegalArgumentException") F.1.2.2.2.1 [] ⟨0, 9, 12, 15⟩ [] htab (fun _ h => nomatch h) rfl (by decide) (F.1.2.2.2.2 _ kl_L_15) (va_Nw.use rfl X.1.2.2.2.2.2.1) h1 h2 h3 ?_
      refine lv_astore_n (lv' := [(3, .ref q9), (0, .ref (a 0)), (1, .int x1), (2, .ref (a 65))]) hx hb dL_longest_12 rfl hl (by decide) rfl (fun ls hl => ?_)
      refine lv_iconst (v := 1) hx hb dL_longest_13 (by decide) ?_
      exact hq _ _ _ _ _ _ (Nat.le_of_ble_eq_true rfl) (Nat.le_of_ble_eq_true rfl) hI dL_longest_14
  · subst hk
    refine lv_i2l hx hb dL_longest_7 rfl ?_
    refine g_wlast F hI dL_longest_8 (fun H locs hI => ?_)
    refine lv_goto (tgt := 15) hx hb dL_longest_9 (by decide) ?_
    refine lv_iconst (v := 0) hx hb dL_longest_15 (by decide) ?_
    exact hq _ _ _ _ _ _ (Nat.le_of_ble_eq_true rfl) (Nat.le_of_ble_eq_true rfl) hI dL_longest_16
def f_L_cost (k : Nat) : Int32 := if k = 0 then 0 else 1
def o_L_cost (k : Nat) (r : Int32) (f : Nat → Int64) : Nat → Int64 := if k = 0 then vp_updL f 0 r.toInt64 else f
abbrev rmL_cost : Room := { frames := 9, cells := 2, slots := 12, locals := 146 }
set_option maxRecDepth 100000 in
set_option maxHeartbeats 4000000 in
theorem c_L_cost (l : Launch) (D : va_G) (a : Nat → Nat) (cI cJ : ClassId) (hj : g_Inj 66 a) (hlt : l.stackTraces = false) (sa : Nat → Nat) (N : Nat) (x1 x2 : Int32) (σ : gSt) (f : Nat → Int64) (out : Nat × Int32 × gSt) (hh : f_X9_cost N σ x1 x2 = some out) (hkk : out.1 = 0 ∨ out.1 = 1) : Met l yL_cost (Cond.codeWith yL_cost cL_cost 5 (some .int) [(0, 10, 13, 13)] :: gW) rmL_cost (g_PcL D a (wE a cI cJ σ f) [(cI, .int), (cJ, .long)] sa [.ref (a 0), .int x1, .int x2, .ref (a 65)]) (g_Qi 66 D a (wE a cI cJ out.2.2 (o_L_cost out.1 out.2.1 f)) (f_L_cost out.1)) 2 12 (g_Own 66 a) := by
  obtain ⟨k, r, σ'⟩ := out
  refine g_metL (by decide) hj (Nat.le_of_ble_eq_true rfl) ?_
  intro p e s m args below meth c Q ls F X htab hl hI hq
  have hx := F.1.1
  have hb := F.1.2.1
  have hl : lv_has ls 5 [(0, .ref (a 0)), (1, .int x1), (2, .int x2), (3, .ref (a 65))] := hl
  refine lv_aload_n hx hb dL_cost_0 rfl (lv_at hl 3 rfl) ?_
  refine lv_iconst (v := 0) hx hb dL_cost_1 (by decide) ?_
  refine lv_aload_n hx hb dL_cost_2 rfl (lv_at hl 0 rfl) ?_
  refine lv_iload_n hx hb dL_cost_3 rfl (lv_at hl 1 rfl) ?_
  refine lv_iload_n hx hb dL_cost_4 rfl (lv_at hl 2 rfl) ?_
  refine g_callXWi (σ' := σ') (k := k) (r := r) (As := [.int x1, .int x2]) (rest := [.int 0, .ref (a 65)]) F X hI (c_X9_cost l D a cI (g_inj_sub (by decide) F.2.2) hlt sa N σ x1 x2 _ hh) kb_X9_cost ki_X9_cost ks_X9_cost km_L_63 ⟨(Nat.le_of_ble_eq_true rfl), (Nat.le_of_ble_eq_true rfl), rfl, rfl⟩ hl.1 rfl (Nat.le_of_ble_eq_true rfl) ⟨(Nat.le_of_ble_eq_true rfl), (Nat.le_of_ble_eq_true rfl)⟩ dL_cost_5 (fun H locs ce q9 hk hI h1 h2 h3 => ?_) (fun H locs hk hI => ?_)
  · rcases hkk with h0 | h0
    · exact absurd h0 hk
    · have h0 : k = 1 := h0
      subst h0
      refine vx_catch (own := RL) (name := "java/lang/IndexOutOfBoundsException") F.1.2.2.2.1 [] ⟨0, 10, 13, 13⟩ [] htab (fun _ h => nomatch h) rfl (by decide) (F.1.2.2.2.2 _ kl_L_13) (va_Nw.use rfl X.1.2.2.2.2.1) h1 h2 h3 ?_
      refine lv_astore (lv' := [(4, .ref q9), (0, .ref (a 0)), (1, .int x1), (2, .int x2), (3, .ref (a 65))]) hx hb dL_cost_13 hl (by decide) rfl (fun ls hl => ?_)
      refine lv_iconst (v := 1) hx hb dL_cost_15 (by decide) ?_
      exact hq _ _ _ _ _ _ (Nat.le_of_ble_eq_true rfl) (Nat.le_of_ble_eq_true rfl) hI dL_cost_16
  · subst hk
    refine lv_i2l hx hb dL_cost_8 rfl ?_
    refine g_wlast F hI dL_cost_9 (fun H locs hI => ?_)
    refine lv_goto (tgt := 17) hx hb dL_cost_10 (by decide) ?_
    refine lv_iconst (v := 0) hx hb dL_cost_17 (by decide) ?_
    exact hq _ _ _ _ _ _ (Nat.le_of_ble_eq_true rfl) (Nat.le_of_ble_eq_true rfl) hI dL_cost_18
def f_L_costByCells (k : Nat) : Int32 := if k = 0 then 0 else 1
def o_L_costByCells (k : Nat) (r : Int32) (f : Nat → Int64) : Nat → Int64 := if k = 0 then vp_updL f 0 r.toInt64 else f
abbrev rmL_costByCells : Room := { frames := 9, cells := 2, slots := 12, locals := 146 }
set_option maxRecDepth 100000 in
set_option maxHeartbeats 4000000 in
theorem c_L_costByCells (l : Launch) (D : va_G) (a : Nat → Nat) (cI cJ : ClassId) (hj : g_Inj 66 a) (hlt : l.stackTraces = false) (sa : Nat → Nat) (N : Nat) (x1 x2 : Int32) (σ : gSt) (f : Nat → Int64) (out : Nat × Int32 × gSt) (hh : f_X9_costByCells N σ x1 x2 = some out) (hkk : out.1 = 0 ∨ out.1 = 1) : Met l yL_costByCells (Cond.codeWith yL_costByCells cL_costByCells 5 (some .int) [(0, 10, 13, 13)] :: gW) rmL_costByCells (g_PcL D a (wE a cI cJ σ f) [(cI, .int), (cJ, .long)] sa [.ref (a 0), .int x1, .int x2, .ref (a 65)]) (g_Qi 66 D a (wE a cI cJ out.2.2 (o_L_costByCells out.1 out.2.1 f)) (f_L_costByCells out.1)) 2 12 (g_Own 66 a) := by
  obtain ⟨k, r, σ'⟩ := out
  refine g_metL (by decide) hj (Nat.le_of_ble_eq_true rfl) ?_
  intro p e s m args below meth c Q ls F X htab hl hI hq
  have hx := F.1.1
  have hb := F.1.2.1
  have hl : lv_has ls 5 [(0, .ref (a 0)), (1, .int x1), (2, .int x2), (3, .ref (a 65))] := hl
  refine lv_aload_n hx hb dL_costByCells_0 rfl (lv_at hl 3 rfl) ?_
  refine lv_iconst (v := 0) hx hb dL_costByCells_1 (by decide) ?_
  refine lv_aload_n hx hb dL_costByCells_2 rfl (lv_at hl 0 rfl) ?_
  refine lv_iload_n hx hb dL_costByCells_3 rfl (lv_at hl 1 rfl) ?_
  refine lv_iload_n hx hb dL_costByCells_4 rfl (lv_at hl 2 rfl) ?_
  refine g_callXWi (σ' := σ') (k := k) (r := r) (As := [.int x1, .int x2]) (rest := [.int 0, .ref (a 65)]) F X hI (c_X9_costByCells l D a cI (g_inj_sub (by decide) F.2.2) hlt sa N σ x1 x2 _ hh) kb_X9_costByCells ki_X9_costByCells ks_X9_costByCells km_L_66 ⟨(Nat.le_of_ble_eq_true rfl), (Nat.le_of_ble_eq_true rfl), rfl, rfl⟩ hl.1 rfl (Nat.le_of_ble_eq_true rfl) ⟨(Nat.le_of_ble_eq_true rfl), (Nat.le_of_ble_eq_true rfl)⟩ dL_costByCells_5 (fun H locs ce q9 hk hI h1 h2 h3 => ?_) (fun H locs hk hI => ?_)
  · rcases hkk with h0 | h0
    · exact absurd h0 hk
    · have h0 : k = 1 := h0
      subst h0
      refine vx_catch (own := RL) (name := "java/lang/IndexOutOfBoundsException") F.1.2.2.2.1 [] ⟨0, 10, 13, 13⟩ [] htab (fun _ h => nomatch h) rfl (by decide) (F.1.2.2.2.2 _ kl_L_13) (va_Nw.use rfl X.1.2.2.2.2.1) h1 h2 h3 ?_
      refine lv_astore (lv' := [(4, .ref q9), (0, .ref (a 0)), (1, .int x1), (2, .int x2), (3, .ref (a 65))]) hx hb dL_costByCells_13 hl (by decide) rfl (fun ls hl => ?_)
      refine lv_iconst (v := 1) hx hb dL_costByCells_15 (by decide) ?_
      exact hq _ _ _ _ _ _ (Nat.le_of_ble_eq_true rfl) (Nat.le_of_ble_eq_true rfl) hI dL_costByCells_16
  · subst hk
    refine lv_i2l hx hb dL_costByCells_8 rfl ?_
    refine g_wlast F hI dL_costByCells_9 (fun H locs hI => ?_)
    refine lv_goto (tgt := 17) hx hb dL_costByCells_10 (by decide) ?_
    refine lv_iconst (v := 0) hx hb dL_costByCells_17 (by decide) ?_
    exact hq _ _ _ _ _ _ (Nat.le_of_ble_eq_true rfl) (Nat.le_of_ble_eq_true rfl) hI dL_costByCells_18
def f_L_climb (k : Nat) : Int32 := if k = 0 then 0 else 1
def o_L_climb (k : Nat) (r : Int32) (f : Nat → Int64) : Nat → Int64 := if k = 0 then vp_updL f 0 r.toInt64 else f
abbrev rmL_climb : Room := { frames := 9, cells := 2, slots := 12, locals := 146 }
set_option maxRecDepth 100000 in
set_option maxHeartbeats 4000000 in
theorem c_L_climb (l : Launch) (D : va_G) (a : Nat → Nat) (cI cJ : ClassId) (hj : g_Inj 66 a) (hlt : l.stackTraces = false) (sa : Nat → Nat) (N : Nat) (x1 x2 : Int32) (σ : gSt) (f : Nat → Int64) (out : Nat × Int32 × gSt) (hh : f_X9_climb N σ x1 x2 = some out) (hkk : out.1 = 0 ∨ out.1 = 1) : Met l yL_climb (Cond.codeWith yL_climb cL_climb 5 (some .int) [(0, 10, 13, 13)] :: gW) rmL_climb (g_PcL D a (wE a cI cJ σ f) [(cI, .int), (cJ, .long)] sa [.ref (a 0), .int x1, .int x2, .ref (a 65)]) (g_Qi 66 D a (wE a cI cJ out.2.2 (o_L_climb out.1 out.2.1 f)) (f_L_climb out.1)) 2 12 (g_Own 66 a) := by
  obtain ⟨k, r, σ'⟩ := out
  refine g_metL (by decide) hj (Nat.le_of_ble_eq_true rfl) ?_
  intro p e s m args below meth c Q ls F X htab hl hI hq
  have hx := F.1.1
  have hb := F.1.2.1
  have hl : lv_has ls 5 [(0, .ref (a 0)), (1, .int x1), (2, .int x2), (3, .ref (a 65))] := hl
  refine lv_aload_n hx hb dL_climb_0 rfl (lv_at hl 3 rfl) ?_
  refine lv_iconst (v := 0) hx hb dL_climb_1 (by decide) ?_
  refine lv_aload_n hx hb dL_climb_2 rfl (lv_at hl 0 rfl) ?_
  refine lv_iload_n hx hb dL_climb_3 rfl (lv_at hl 1 rfl) ?_
  refine lv_iload_n hx hb dL_climb_4 rfl (lv_at hl 2 rfl) ?_
  refine g_callXWi (σ' := σ') (k := k) (r := r) (As := [.int x1, .int x2]) (rest := [.int 0, .ref (a 65)]) F X hI (c_X9_climb l D a cI (g_inj_sub (by decide) F.2.2) hlt sa N σ x1 x2 _ hh) kb_X9_climb ki_X9_climb ks_X9_climb km_L_69 ⟨(Nat.le_of_ble_eq_true rfl), (Nat.le_of_ble_eq_true rfl), rfl, rfl⟩ hl.1 rfl (Nat.le_of_ble_eq_true rfl) ⟨(Nat.le_of_ble_eq_true rfl), (Nat.le_of_ble_eq_true rfl)⟩ dL_climb_5 (fun H locs ce q9 hk hI h1 h2 h3 => ?_) (fun H locs hk hI => ?_)
  · rcases hkk with h0 | h0
    · exact absurd h0 hk
    · have h0 : k = 1 := h0
      subst h0
      refine vx_catch (own := RL) (name := "java/lang/IndexOutOfBoundsException") F.1.2.2.2.1 [] ⟨0, 10, 13, 13⟩ [] htab (fun _ h => nomatch h) rfl (by decide) (F.1.2.2.2.2 _ kl_L_13) (va_Nw.use rfl X.1.2.2.2.2.1) h1 h2 h3 ?_
      refine lv_astore (lv' := [(4, .ref q9), (0, .ref (a 0)), (1, .int x1), (2, .int x2), (3, .ref (a 65))]) hx hb dL_climb_13 hl (by decide) rfl (fun ls hl => ?_)
      refine lv_iconst (v := 1) hx hb dL_climb_15 (by decide) ?_
      exact hq _ _ _ _ _ _ (Nat.le_of_ble_eq_true rfl) (Nat.le_of_ble_eq_true rfl) hI dL_climb_16
  · subst hk
    refine lv_i2l hx hb dL_climb_8 rfl ?_
    refine g_wlast F hI dL_climb_9 (fun H locs hI => ?_)
    refine lv_goto (tgt := 17) hx hb dL_climb_10 (by decide) ?_
    refine lv_iconst (v := 0) hx hb dL_climb_17 (by decide) ?_
    exact hq _ _ _ _ _ _ (Nat.le_of_ble_eq_true rfl) (Nat.le_of_ble_eq_true rfl) hI dL_climb_18
def f_L_tempts (k : Nat) : Int32 := if k = 0 then 0 else 1
def o_L_tempts (k : Nat) (r : Int32) (f : Nat → Int64) : Nat → Int64 := if k = 0 then vp_updL f 0 (if r = 0 then 0 else 1) else f
abbrev rmL_tempts : Room := { frames := 9, cells := 2, slots := 12, locals := 148 }
set_option maxRecDepth 100000 in
set_option maxHeartbeats 4000000 in
theorem c_L_tempts (l : Launch) (D : va_G) (a : Nat → Nat) (cI cJ : ClassId) (hj : g_Inj 66 a) (hlt : l.stackTraces = false) (sa : Nat → Nat) (N : Nat) (x1 x2 : Int32) (σ : gSt) (f : Nat → Int64) (out : Nat × Int32 × gSt) (hh : f_X9_tempts N σ x1 x2 = some out) (hkk : out.1 = 0 ∨ out.1 = 1) : Met l yL_tempts (Cond.codeWith yL_tempts cL_tempts 5 (some .int) [(0, 17, 20, 13)] :: gW) rmL_tempts (g_PcL D a (wE a cI cJ σ f) [(cI, .int), (cJ, .long)] sa [.ref (a 0), .int x1, .int x2, .ref (a 65)]) (g_Qi 66 D a (wE a cI cJ out.2.2 (o_L_tempts out.1 out.2.1 f)) (f_L_tempts out.1)) 2 12 (g_Own 66 a) := by
  obtain ⟨k, r, σ'⟩ := out
  refine g_metL (by decide) hj (Nat.le_of_ble_eq_true rfl) ?_
  intro p e s m args below meth c Q ls F X htab hl hI hq
  have hx := F.1.1
  have hb := F.1.2.1
  have hl : lv_has ls 5 [(0, .ref (a 0)), (1, .int x1), (2, .int x2), (3, .ref (a 65))] := hl
  refine lv_aload_n hx hb dL_tempts_0 rfl (lv_at hl 3 rfl) ?_
  refine lv_iconst (v := 0) hx hb dL_tempts_1 (by decide) ?_
  refine lv_aload_n hx hb dL_tempts_2 rfl (lv_at hl 0 rfl) ?_
  refine lv_iload_n hx hb dL_tempts_3 rfl (lv_at hl 1 rfl) ?_
  refine lv_iload_n hx hb dL_tempts_4 rfl (lv_at hl 2 rfl) ?_
  refine g_callXWi (σ' := σ') (k := k) (r := r) (As := [.int x1, .int x2]) (rest := [.int 0, .ref (a 65)]) F X hI (c_X9_tempts l D a cI (g_inj_sub (by decide) F.2.2) hlt sa N σ x1 x2 _ hh) kb_X9_tempts ki_X9_tempts ks_X9_tempts km_L_72 ⟨(Nat.le_of_ble_eq_true rfl), (Nat.le_of_ble_eq_true rfl), rfl, rfl⟩ hl.1 rfl (Nat.le_of_ble_eq_true rfl) ⟨(Nat.le_of_ble_eq_true rfl), (Nat.le_of_ble_eq_true rfl)⟩ dL_tempts_5 (fun H locs ce q9 hk hI h1 h2 h3 => ?_) (fun H locs hk hI => ?_)
  · rcases hkk with h0 | h0
    · exact absurd h0 hk
    · have h0 : k = 1 := h0
      subst h0
      refine vx_catch (own := RL) (name := "java/lang/IndexOutOfBoundsException") F.1.2.2.2.1 [] ⟨0, 17, 20, 13⟩ [] htab (fun _ h => nomatch h) rfl (by decide) (F.1.2.2.2.2 _ kl_L_13) (va_Nw.use rfl X.1.2.2.2.2.1) h1 h2 h3 ?_
      refine lv_astore (lv' := [(4, .ref q9), (0, .ref (a 0)), (1, .int x1), (2, .int x2), (3, .ref (a 65))]) hx hb dL_tempts_20 hl (by decide) rfl (fun ls hl => ?_)
      refine lv_iconst (v := 1) hx hb dL_tempts_22 (by decide) ?_
      exact hq _ _ _ _ _ _ (Nat.le_of_ble_eq_true rfl) (Nat.le_of_ble_eq_true rfl) hI dL_tempts_23
  · subst hk
    refine lv_if_eq (tgt := 15) hx hb dL_tempts_8 (by decide) (fun c1 => ?_) (fun c1 => ?_)
    · refine lv_lconst (v := 0) hx hb dL_tempts_15 rfl ?_
      refine g_wlast F hI dL_tempts_16 (fun H locs hI => ?_)
      refine lv_goto (tgt := 24) hx hb dL_tempts_17 (by decide) ?_
      refine lv_iconst (v := 0) hx hb dL_tempts_24 (by decide) ?_
      exact hq _ _ _ _ _ _ (Nat.le_of_ble_eq_true rfl) (Nat.le_of_ble_eq_true rfl) (by rw [show o_L_tempts 0 r f = vp_updL f 0 0 from by unfold o_L_tempts; rw [if_pos rfl, if_pos c1]]; exact hI) dL_tempts_25
    · refine lv_lconst (v := 1) hx hb dL_tempts_11 rfl ?_
      refine lv_goto (tgt := 16) hx hb dL_tempts_12 (by decide) ?_
      refine g_wlast F hI dL_tempts_16 (fun H locs hI => ?_)
      refine lv_goto (tgt := 24) hx hb dL_tempts_17 (by decide) ?_
      refine lv_iconst (v := 0) hx hb dL_tempts_24 (by decide) ?_
      exact hq _ _ _ _ _ _ (Nat.le_of_ble_eq_true rfl) (Nat.le_of_ble_eq_true rfl) (by rw [show o_L_tempts 0 r f = vp_updL f 0 1 from by unfold o_L_tempts; rw [if_pos rfl, if_neg c1]]; exact hI) dL_tempts_25
def f_L_courseAt (k : Nat) : Int32 := if k = 0 then 0 else 1
def o_L_courseAt (k : Nat) (r : Int32) (f : Nat → Int64) : Nat → Int64 := if k = 0 then vp_updL f 0 r.toInt64 else f
abbrev rmL_courseAt : Room := { frames := 9, cells := 2, slots := 12, locals := 145 }
set_option maxRecDepth 100000 in
set_option maxHeartbeats 4000000 in
theorem c_L_courseAt (l : Launch) (D : va_G) (a : Nat → Nat) (cI cJ : ClassId) (hj : g_Inj 66 a) (hlt : l.stackTraces = false) (sa : Nat → Nat) (x1 x2 : Int32) (σ : gSt) (f : Nat → Int64) (out : Nat × Int32 × gSt) (hh : f_X9_courseAt σ x1 x2 = out) (hkk : out.1 = 0 ∨ out.1 = 1) : Met l yL_courseAt (Cond.codeWith yL_courseAt cL_courseAt 5 (some .int) [(0, 10, 13, 13)] :: gW) rmL_courseAt (g_PcL D a (wE a cI cJ σ f) [(cI, .int), (cJ, .long)] sa [.ref (a 0), .int x1, .int x2, .ref (a 65)]) (g_Qi 66 D a (wE a cI cJ out.2.2 (o_L_courseAt out.1 out.2.1 f)) (f_L_courseAt out.1)) 2 12 (g_Own 66 a) := by
  obtain ⟨k, r, σ'⟩ := out
  refine g_metL (by decide) hj (Nat.le_of_ble_eq_true rfl) ?_
  intro p e s m args below meth c Q ls F X htab hl hI hq
  have hx := F.1.1
  have hb := F.1.2.1
  have hl : lv_has ls 5 [(0, .ref (a 0)), (1, .int x1), (2, .int x2), (3, .ref (a 65))] := hl
  refine lv_aload_n hx hb dL_courseAt_0 rfl (lv_at hl 3 rfl) ?_
  refine lv_iconst (v := 0) hx hb dL_courseAt_1 (by decide) ?_
  refine lv_aload_n hx hb dL_courseAt_2 rfl (lv_at hl 0 rfl) ?_
  refine lv_iload_n hx hb dL_courseAt_3 rfl (lv_at hl 1 rfl) ?_
  refine lv_iload_n hx hb dL_courseAt_4 rfl (lv_at hl 2 rfl) ?_
  have hM := c_X9_courseAt l D a cI (g_inj_sub (by decide) F.2.2) hlt sa σ x1 x2
  rw [hh] at hM
  refine g_callXWi (σ' := σ') (k := k) (r := r) (As := [.int x1, .int x2]) (rest := [.int 0, .ref (a 65)]) F X hI hM kb_X9_courseAt ki_X9_courseAt ks_X9_courseAt km_L_76 ⟨(Nat.le_of_ble_eq_true rfl), (Nat.le_of_ble_eq_true rfl), rfl, rfl⟩ hl.1 rfl (Nat.le_of_ble_eq_true rfl) ⟨(Nat.le_of_ble_eq_true rfl), (Nat.le_of_ble_eq_true rfl)⟩ dL_courseAt_5 (fun H locs ce q9 hk hI h1 h2 h3 => ?_) (fun H locs hk hI => ?_)
  · rcases hkk with h0 | h0
    · exact absurd h0 hk
    · have h0 : k = 1 := h0
      subst h0
      refine vx_catch (own := RL) (name := "java/lang/IndexOutOfBoundsException") F.1.2.2.2.1 [] ⟨0, 10, 13, 13⟩ [] htab (fun _ h => nomatch h) rfl (by decide) (F.1.2.2.2.2 _ kl_L_13) (va_Nw.use rfl X.1.2.2.2.2.1) h1 h2 h3 ?_
      refine lv_astore (lv' := [(4, .ref q9), (0, .ref (a 0)), (1, .int x1), (2, .int x2), (3, .ref (a 65))]) hx hb dL_courseAt_13 hl (by decide) rfl (fun ls hl => ?_)
      refine lv_iconst (v := 1) hx hb dL_courseAt_15 (by decide) ?_
      exact hq _ _ _ _ _ _ (Nat.le_of_ble_eq_true rfl) (Nat.le_of_ble_eq_true rfl) hI dL_courseAt_16
  · subst hk
    refine lv_i2l hx hb dL_courseAt_8 rfl ?_
    refine g_wlast F hI dL_courseAt_9 (fun H locs hI => ?_)
    refine lv_goto (tgt := 17) hx hb dL_courseAt_10 (by decide) ?_
    refine lv_iconst (v := 0) hx hb dL_courseAt_17 (by decide) ?_
    exact hq _ _ _ _ _ _ (Nat.le_of_ble_eq_true rfl) (Nat.le_of_ble_eq_true rfl) hI dL_courseAt_18
def f_L_courseClimb (k : Nat) : Int32 := if k = 0 then 0 else 1
def o_L_courseClimb (k : Nat) (r : Int32) (f : Nat → Int64) : Nat → Int64 := if k = 0 then vp_updL f 0 r.toInt64 else f
abbrev rmL_courseClimb : Room := { frames := 9, cells := 1, slots := 6, locals := 144 }
set_option maxRecDepth 100000 in
set_option maxHeartbeats 4000000 in
theorem c_L_courseClimb (l : Launch) (D : va_G) (a : Nat → Nat) (cI cJ : ClassId) (hj : g_Inj 66 a) (hlt : l.stackTraces = false) (sa : Nat → Nat) (N : Nat) (x1 : Int32) (σ : gSt) (f : Nat → Int64) (out : Nat × Int32 × gSt) (hh : f_X9_courseClimb N σ x1 = some out) (hkk : out.1 = 0 ∨ out.1 = 1) : Met l yL_courseClimb (Cond.codeWith yL_courseClimb cL_courseClimb 4 (some .int) [(0, 9, 12, 13)] :: gW) rmL_courseClimb (g_PcL D a (wE a cI cJ σ f) [(cI, .int), (cJ, .long)] sa [.ref (a 0), .int x1, .ref (a 65)]) (g_Qi 66 D a (wE a cI cJ out.2.2 (o_L_courseClimb out.1 out.2.1 f)) (f_L_courseClimb out.1)) 1 6 (g_Own 66 a) := by
  obtain ⟨k, r, σ'⟩ := out
  refine g_metL (by decide) hj (Nat.le_of_ble_eq_true rfl) ?_
  intro p e s m args below meth c Q ls F X htab hl hI hq
  have hx := F.1.1
  have hb := F.1.2.1
  have hl : lv_has ls 4 [(0, .ref (a 0)), (1, .int x1), (2, .ref (a 65))] := hl
  refine lv_aload_n hx hb dL_courseClimb_0 rfl (lv_at hl 2 rfl) ?_
  refine lv_iconst (v := 0) hx hb dL_courseClimb_1 (by decide) ?_
  refine lv_aload_n hx hb dL_courseClimb_2 rfl (lv_at hl 0 rfl) ?_
  refine lv_iload_n hx hb dL_courseClimb_3 rfl (lv_at hl 1 rfl) ?_
  refine g_callXWi (σ' := σ') (k := k) (r := r) (As := [.int x1]) (rest := [.int 0, .ref (a 65)]) F X hI (c_X9_courseClimb l D a cI (g_inj_sub (by decide) F.2.2) hlt sa N σ x1 _ hh) kb_X9_courseClimb ki_X9_courseClimb ks_X9_courseClimb km_L_79 ⟨(Nat.le_of_ble_eq_true rfl), (Nat.le_of_ble_eq_true rfl), rfl, rfl⟩ hl.1 rfl (Nat.le_of_ble_eq_true rfl) ⟨(Nat.le_of_ble_eq_true rfl), (Nat.le_of_ble_eq_true rfl)⟩ dL_courseClimb_4 (fun H locs ce q9 hk hI h1 h2 h3 => ?_) (fun H locs hk hI => ?_)
  · rcases hkk with h0 | h0
    · exact absurd h0 hk
    · have h0 : k = 1 := h0
      subst h0
      refine vx_catch (own := RL) (name := "java/lang/IndexOutOfBoundsException") F.1.2.2.2.1 [] ⟨0, 9, 12, 13⟩ [] htab (fun _ h => nomatch h) rfl (by decide) (F.1.2.2.2.2 _ kl_L_13) (va_Nw.use rfl X.1.2.2.2.2.1) h1 h2 h3 ?_
      refine lv_astore_n (lv' := [(3, .ref q9), (0, .ref (a 0)), (1, .int x1), (2, .ref (a 65))]) hx hb dL_courseClimb_12 rfl hl (by decide) rfl (fun ls hl => ?_)
      refine lv_iconst (v := 1) hx hb dL_courseClimb_13 (by decide) ?_
      exact hq _ _ _ _ _ _ (Nat.le_of_ble_eq_true rfl) (Nat.le_of_ble_eq_true rfl) hI dL_courseClimb_14
  · subst hk
    refine lv_i2l hx hb dL_courseClimb_7 rfl ?_
    refine g_wlast F hI dL_courseClimb_8 (fun H locs hI => ?_)
    refine lv_goto (tgt := 15) hx hb dL_courseClimb_9 (by decide) ?_
    refine lv_iconst (v := 0) hx hb dL_courseClimb_15 (by decide) ?_
    exact hq _ _ _ _ _ _ (Nat.le_of_ble_eq_true rfl) (Nat.le_of_ble_eq_true rfl) hI dL_courseClimb_16
def f_L_courseCost (k : Nat) : Int32 := if k = 0 then 0 else 1
def o_L_courseCost (k : Nat) (r : Int32) (f : Nat → Int64) : Nat → Int64 := if k = 0 then vp_updL f 0 r.toInt64 else f
abbrev rmL_courseCost : Room := { frames := 9, cells := 1, slots := 6, locals := 144 }
set_option maxRecDepth 100000 in
set_option maxHeartbeats 4000000 in
theorem c_L_courseCost (l : Launch) (D : va_G) (a : Nat → Nat) (cI cJ : ClassId) (hj : g_Inj 66 a) (hlt : l.stackTraces = false) (sa : Nat → Nat) (N : Nat) (x1 : Int32) (σ : gSt) (f : Nat → Int64) (out : Nat × Int32 × gSt) (hh : f_X9_courseCost N σ x1 = some out) (hkk : out.1 = 0 ∨ out.1 = 1) : Met l yL_courseCost (Cond.codeWith yL_courseCost cL_courseCost 4 (some .int) [(0, 9, 12, 13)] :: gW) rmL_courseCost (g_PcL D a (wE a cI cJ σ f) [(cI, .int), (cJ, .long)] sa [.ref (a 0), .int x1, .ref (a 65)]) (g_Qi 66 D a (wE a cI cJ out.2.2 (o_L_courseCost out.1 out.2.1 f)) (f_L_courseCost out.1)) 1 6 (g_Own 66 a) := by
  obtain ⟨k, r, σ'⟩ := out
  refine g_metL (by decide) hj (Nat.le_of_ble_eq_true rfl) ?_
  intro p e s m args below meth c Q ls F X htab hl hI hq
  have hx := F.1.1
  have hb := F.1.2.1
  have hl : lv_has ls 4 [(0, .ref (a 0)), (1, .int x1), (2, .ref (a 65))] := hl
  refine lv_aload_n hx hb dL_courseCost_0 rfl (lv_at hl 2 rfl) ?_
  refine lv_iconst (v := 0) hx hb dL_courseCost_1 (by decide) ?_
  refine lv_aload_n hx hb dL_courseCost_2 rfl (lv_at hl 0 rfl) ?_
  refine lv_iload_n hx hb dL_courseCost_3 rfl (lv_at hl 1 rfl) ?_
  refine g_callXWi (σ' := σ') (k := k) (r := r) (As := [.int x1]) (rest := [.int 0, .ref (a 65)]) F X hI (c_X9_courseCost l D a cI (g_inj_sub (by decide) F.2.2) hlt sa N σ x1 _ hh) kb_X9_courseCost ki_X9_courseCost ks_X9_courseCost km_L_82 ⟨(Nat.le_of_ble_eq_true rfl), (Nat.le_of_ble_eq_true rfl), rfl, rfl⟩ hl.1 rfl (Nat.le_of_ble_eq_true rfl) ⟨(Nat.le_of_ble_eq_true rfl), (Nat.le_of_ble_eq_true rfl)⟩ dL_courseCost_4 (fun H locs ce q9 hk hI h1 h2 h3 => ?_) (fun H locs hk hI => ?_)
  · rcases hkk with h0 | h0
    · exact absurd h0 hk
    · have h0 : k = 1 := h0
      subst h0
      refine vx_catch (own := RL) (name := "java/lang/IndexOutOfBoundsException") F.1.2.2.2.1 [] ⟨0, 9, 12, 13⟩ [] htab (fun _ h => nomatch h) rfl (by decide) (F.1.2.2.2.2 _ kl_L_13) (va_Nw.use rfl X.1.2.2.2.2.1) h1 h2 h3 ?_
      refine lv_astore_n (lv' := [(3, .ref q9), (0, .ref (a 0)), (1, .int x1), (2, .ref (a 65))]) hx hb dL_courseCost_12 rfl hl (by decide) rfl (fun ls hl => ?_)
      refine lv_iconst (v := 1) hx hb dL_courseCost_13 (by decide) ?_
      exact hq _ _ _ _ _ _ (Nat.le_of_ble_eq_true rfl) (Nat.le_of_ble_eq_true rfl) hI dL_courseCost_14
  · subst hk
    refine lv_i2l hx hb dL_courseCost_7 rfl ?_
    refine g_wlast F hI dL_courseCost_8 (fun H locs hI => ?_)
    refine lv_goto (tgt := 15) hx hb dL_courseCost_9 (by decide) ?_
    refine lv_iconst (v := 0) hx hb dL_courseCost_15 (by decide) ?_
    exact hq _ _ _ _ _ _ (Nat.le_of_ble_eq_true rfl) (Nat.le_of_ble_eq_true rfl) hI dL_courseCost_16
def f_L_startOf (k : Nat) : Int32 := if k = 0 then 0 else 1
def o_L_startOf (k : Nat) (r : Int32) (f : Nat → Int64) : Nat → Int64 := if k = 0 then vp_updL f 0 r.toInt64 else f
abbrev rmL_startOf : Room := { frames := 9, cells := 1, slots := 6, locals := 145 }
set_option maxRecDepth 100000 in
set_option maxHeartbeats 4000000 in
theorem c_L_startOf (l : Launch) (D : va_G) (a : Nat → Nat) (cI cJ : ClassId) (hj : g_Inj 66 a) (hlt : l.stackTraces = false) (sa : Nat → Nat) (x1 : Int32) (σ : gSt) (f : Nat → Int64) (out : Nat × Int32 × gSt) (hh : f_X9_startOf σ x1 = out) (hkk : out.1 = 0 ∨ out.1 = 1) : Met l yL_startOf (Cond.codeWith yL_startOf cL_startOf 4 (some .int) [(0, 9, 12, 13)] :: gW) rmL_startOf (g_PcL D a (wE a cI cJ σ f) [(cI, .int), (cJ, .long)] sa [.ref (a 0), .int x1, .ref (a 65)]) (g_Qi 66 D a (wE a cI cJ out.2.2 (o_L_startOf out.1 out.2.1 f)) (f_L_startOf out.1)) 1 6 (g_Own 66 a) := by
  obtain ⟨k, r, σ'⟩ := out
  refine g_metL (by decide) hj (Nat.le_of_ble_eq_true rfl) ?_
  intro p e s m args below meth c Q ls F X htab hl hI hq
  have hx := F.1.1
  have hb := F.1.2.1
  have hl : lv_has ls 4 [(0, .ref (a 0)), (1, .int x1), (2, .ref (a 65))] := hl
  refine lv_aload_n hx hb dL_startOf_0 rfl (lv_at hl 2 rfl) ?_
  refine lv_iconst (v := 0) hx hb dL_startOf_1 (by decide) ?_
  refine lv_aload_n hx hb dL_startOf_2 rfl (lv_at hl 0 rfl) ?_
  refine lv_iload_n hx hb dL_startOf_3 rfl (lv_at hl 1 rfl) ?_
  have hM := c_X9_startOf l D a cI (g_inj_sub (by decide) F.2.2) hlt sa σ x1
  rw [hh] at hM
  refine g_callXWi (σ' := σ') (k := k) (r := r) (As := [.int x1]) (rest := [.int 0, .ref (a 65)]) F X hI hM kb_X9_startOf ki_X9_startOf ks_X9_startOf km_L_85 ⟨(Nat.le_of_ble_eq_true rfl), (Nat.le_of_ble_eq_true rfl), rfl, rfl⟩ hl.1 rfl (Nat.le_of_ble_eq_true rfl) ⟨(Nat.le_of_ble_eq_true rfl), (Nat.le_of_ble_eq_true rfl)⟩ dL_startOf_4 (fun H locs ce q9 hk hI h1 h2 h3 => ?_) (fun H locs hk hI => ?_)
  · rcases hkk with h0 | h0
    · exact absurd h0 hk
    · have h0 : k = 1 := h0
      subst h0
      refine vx_catch (own := RL) (name := "java/lang/IndexOutOfBoundsException") F.1.2.2.2.1 [] ⟨0, 9, 12, 13⟩ [] htab (fun _ h => nomatch h) rfl (by decide) (F.1.2.2.2.2 _ kl_L_13) (va_Nw.use rfl X.1.2.2.2.2.1) h1 h2 h3 ?_
      refine lv_astore_n (lv' := [(3, .ref q9), (0, .ref (a 0)), (1, .int x1), (2, .ref (a 65))]) hx hb dL_startOf_12 rfl hl (by decide) rfl (fun ls hl => ?_)
      refine lv_iconst (v := 1) hx hb dL_startOf_13 (by decide) ?_
      exact hq _ _ _ _ _ _ (Nat.le_of_ble_eq_true rfl) (Nat.le_of_ble_eq_true rfl) hI dL_startOf_14
  · subst hk
    refine lv_i2l hx hb dL_startOf_7 rfl ?_
    refine g_wlast F hI dL_startOf_8 (fun H locs hI => ?_)
    refine lv_goto (tgt := 15) hx hb dL_startOf_9 (by decide) ?_
    refine lv_iconst (v := 0) hx hb dL_startOf_15 (by decide) ?_
    exact hq _ _ _ _ _ _ (Nat.le_of_ble_eq_true rfl) (Nat.le_of_ble_eq_true rfl) hI dL_startOf_16
def f_L_stateOf (k : Nat) : Int32 := if k = 0 then 0 else 1
def o_L_stateOf (k : Nat) (r : Int32) (f : Nat → Int64) : Nat → Int64 := if k = 0 then vp_updL f 0 r.toInt64 else f
abbrev rmL_stateOf : Room := { frames := 9, cells := 1, slots := 6, locals := 145 }
set_option maxRecDepth 100000 in
set_option maxHeartbeats 4000000 in
theorem c_L_stateOf (l : Launch) (D : va_G) (a : Nat → Nat) (cI cJ : ClassId) (hj : g_Inj 66 a) (hlt : l.stackTraces = false) (sa : Nat → Nat) (N : Nat) (x1 : Int32) (σ : gSt) (f : Nat → Int64) (out : Nat × Int32 × gSt) (hh : f_X9_stateOf N σ x1 = some out) (hkk : out.1 = 0 ∨ out.1 = 1) : Met l yL_stateOf (Cond.codeWith yL_stateOf cL_stateOf 4 (some .int) [(0, 9, 12, 13)] :: gW) rmL_stateOf (g_PcL D a (wE a cI cJ σ f) [(cI, .int), (cJ, .long)] sa [.ref (a 0), .int x1, .ref (a 65)]) (g_Qi 66 D a (wE a cI cJ out.2.2 (o_L_stateOf out.1 out.2.1 f)) (f_L_stateOf out.1)) 1 6 (g_Own 66 a) := by
  obtain ⟨k, r, σ'⟩ := out
  refine g_metL (by decide) hj (Nat.le_of_ble_eq_true rfl) ?_
  intro p e s m args below meth c Q ls F X htab hl hI hq
  have hx := F.1.1
  have hb := F.1.2.1
  have hl : lv_has ls 4 [(0, .ref (a 0)), (1, .int x1), (2, .ref (a 65))] := hl
  refine lv_aload_n hx hb dL_stateOf_0 rfl (lv_at hl 2 rfl) ?_
  refine lv_iconst (v := 0) hx hb dL_stateOf_1 (by decide) ?_
  refine lv_aload_n hx hb dL_stateOf_2 rfl (lv_at hl 0 rfl) ?_
  refine lv_iload_n hx hb dL_stateOf_3 rfl (lv_at hl 1 rfl) ?_
  refine g_callXWi (σ' := σ') (k := k) (r := r) (As := [.int x1]) (rest := [.int 0, .ref (a 65)]) F X hI (c_X9_stateOf l D a cI (g_inj_sub (by decide) F.2.2) hlt sa N σ x1 _ hh) kb_X9_stateOf ki_X9_stateOf ks_X9_stateOf km_L_88 ⟨(Nat.le_of_ble_eq_true rfl), (Nat.le_of_ble_eq_true rfl), rfl, rfl⟩ hl.1 rfl (Nat.le_of_ble_eq_true rfl) ⟨(Nat.le_of_ble_eq_true rfl), (Nat.le_of_ble_eq_true rfl)⟩ dL_stateOf_4 (fun H locs ce q9 hk hI h1 h2 h3 => ?_) (fun H locs hk hI => ?_)
  · rcases hkk with h0 | h0
    · exact absurd h0 hk
    · have h0 : k = 1 := h0
      subst h0
      refine vx_catch (own := RL) (name := "java/lang/IndexOutOfBoundsException") F.1.2.2.2.1 [] ⟨0, 9, 12, 13⟩ [] htab (fun _ h => nomatch h) rfl (by decide) (F.1.2.2.2.2 _ kl_L_13) (va_Nw.use rfl X.1.2.2.2.2.1) h1 h2 h3 ?_
      refine lv_astore_n (lv' := [(3, .ref q9), (0, .ref (a 0)), (1, .int x1), (2, .ref (a 65))]) hx hb dL_stateOf_12 rfl hl (by decide) rfl (fun ls hl => ?_)
      refine lv_iconst (v := 1) hx hb dL_stateOf_13 (by decide) ?_
      exact hq _ _ _ _ _ _ (Nat.le_of_ble_eq_true rfl) (Nat.le_of_ble_eq_true rfl) hI dL_stateOf_14
  · subst hk
    refine lv_i2l hx hb dL_stateOf_7 rfl ?_
    refine g_wlast F hI dL_stateOf_8 (fun H locs hI => ?_)
    refine lv_goto (tgt := 15) hx hb dL_stateOf_9 (by decide) ?_
    refine lv_iconst (v := 0) hx hb dL_stateOf_15 (by decide) ?_
    exact hq _ _ _ _ _ _ (Nat.le_of_ble_eq_true rfl) (Nat.le_of_ble_eq_true rfl) hI dL_stateOf_16
def f_L_split (k : Nat) : Int32 := if k = 0 then 0 else 1
def o_L_split (k : Nat) (r : Int32) (f : Nat → Int64) : Nat → Int64 := if k = 0 then vp_updL f 0 r.toInt64 else f
abbrev rmL_split : Room := { frames := 9, cells := 2, slots := 12, locals := 147 }
set_option maxRecDepth 100000 in
set_option maxHeartbeats 4000000 in
theorem c_L_split (l : Launch) (D : va_G) (a : Nat → Nat) (cI cJ : ClassId) (hj : g_Inj 66 a) (hlt : l.stackTraces = false) (sa : Nat → Nat) (N : Nat) (x1 x2 : Int32) (σ : gSt) (f : Nat → Int64) (out : Nat × Int32 × gSt) (hh : f_X9_split N σ x1 x2 = some out) (hkk : out.1 = 0 ∨ out.1 = 1) : Met l yL_split (Cond.codeWith yL_split cL_split 5 (some .int) [(0, 10, 13, 13)] :: gW) rmL_split (g_PcL D a (wE a cI cJ σ f) [(cI, .int), (cJ, .long)] sa [.ref (a 0), .int x1, .int x2, .ref (a 65)]) (g_Qi 66 D a (wE a cI cJ out.2.2 (o_L_split out.1 out.2.1 f)) (f_L_split out.1)) 2 12 (g_Own 66 a) := by
  obtain ⟨k, r, σ'⟩ := out
  refine g_metL (by decide) hj (Nat.le_of_ble_eq_true rfl) ?_
  intro p e s m args below meth c Q ls F X htab hl hI hq
  have hx := F.1.1
  have hb := F.1.2.1
  have hl : lv_has ls 5 [(0, .ref (a 0)), (1, .int x1), (2, .int x2), (3, .ref (a 65))] := hl
  refine lv_aload_n hx hb dL_split_0 rfl (lv_at hl 3 rfl) ?_
  refine lv_iconst (v := 0) hx hb dL_split_1 (by decide) ?_
  refine lv_aload_n hx hb dL_split_2 rfl (lv_at hl 0 rfl) ?_
  refine lv_iload_n hx hb dL_split_3 rfl (lv_at hl 1 rfl) ?_
  refine lv_iload_n hx hb dL_split_4 rfl (lv_at hl 2 rfl) ?_
  refine g_callXWi (σ' := σ') (k := k) (r := r) (As := [.int x1, .int x2]) (rest := [.int 0, .ref (a 65)]) F X hI (c_X9_split l D a cI (g_inj_sub (by decide) F.2.2) hlt sa N σ x1 x2 _ hh) kb_X9_split ki_X9_split ks_X9_split km_L_91 ⟨(Nat.le_of_ble_eq_true rfl), (Nat.le_of_ble_eq_true rfl), rfl, rfl⟩ hl.1 rfl (Nat.le_of_ble_eq_true rfl) ⟨(Nat.le_of_ble_eq_true rfl), (Nat.le_of_ble_eq_true rfl)⟩ dL_split_5 (fun H locs ce q9 hk hI h1 h2 h3 => ?_) (fun H locs hk hI => ?_)
  · rcases hkk with h0 | h0
    · exact absurd h0 hk
    · have h0 : k = 1 := h0
      subst h0
      refine vx_catch (own := RL) (name := "java/lang/IndexOutOfBoundsException") F.1.2.2.2.1 [] ⟨0, 10, 13, 13⟩ [] htab (fun _ h => nomatch h) rfl (by decide) (F.1.2.2.2.2 _ kl_L_13) (va_Nw.use rfl X.1.2.2.2.2.1) h1 h2 h3 ?_
      refine lv_astore (lv' := [(4, .ref q9), (0, .ref (a 0)), (1, .int x1), (2, .int x2), (3, .ref (a 65))]) hx hb dL_split_13 hl (by decide) rfl (fun ls hl => ?_)
      refine lv_iconst (v := 1) hx hb dL_split_15 (by decide) ?_
      exact hq _ _ _ _ _ _ (Nat.le_of_ble_eq_true rfl) (Nat.le_of_ble_eq_true rfl) hI dL_split_16
  · subst hk
    refine lv_i2l hx hb dL_split_8 rfl ?_
    refine g_wlast F hI dL_split_9 (fun H locs hI => ?_)
    refine lv_goto (tgt := 17) hx hb dL_split_10 (by decide) ?_
    refine lv_iconst (v := 0) hx hb dL_split_17 (by decide) ?_
    exact hq _ _ _ _ _ _ (Nat.le_of_ble_eq_true rfl) (Nat.le_of_ble_eq_true rfl) hI dL_split_18
def f_L_total (k : Nat) : Int32 := if k = 0 then 0 else 1
def o_L_total (k : Nat) (r : Int32) (f : Nat → Int64) : Nat → Int64 := if k = 0 then vp_updL f 0 r.toInt64 else f
abbrev rmL_total : Room := { frames := 9, cells := 1, slots := 6, locals := 145 }
set_option maxRecDepth 100000 in
set_option maxHeartbeats 4000000 in
theorem c_L_total (l : Launch) (D : va_G) (a : Nat → Nat) (cI cJ : ClassId) (hj : g_Inj 66 a) (hlt : l.stackTraces = false) (sa : Nat → Nat) (N : Nat) (x1 : Int32) (σ : gSt) (f : Nat → Int64) (out : Nat × Int32 × gSt) (hh : f_X9_total N σ x1 = some out) (hkk : out.1 = 0 ∨ out.1 = 1) : Met l yL_total (Cond.codeWith yL_total cL_total 4 (some .int) [(0, 9, 12, 13)] :: gW) rmL_total (g_PcL D a (wE a cI cJ σ f) [(cI, .int), (cJ, .long)] sa [.ref (a 0), .int x1, .ref (a 65)]) (g_Qi 66 D a (wE a cI cJ out.2.2 (o_L_total out.1 out.2.1 f)) (f_L_total out.1)) 1 6 (g_Own 66 a) := by
  obtain ⟨k, r, σ'⟩ := out
  refine g_metL (by decide) hj (Nat.le_of_ble_eq_true rfl) ?_
  intro p e s m args below meth c Q ls F X htab hl hI hq
  have hx := F.1.1
  have hb := F.1.2.1
  have hl : lv_has ls 4 [(0, .ref (a 0)), (1, .int x1), (2, .ref (a 65))] := hl
  refine lv_aload_n hx hb dL_total_0 rfl (lv_at hl 2 rfl) ?_
  refine lv_iconst (v := 0) hx hb dL_total_1 (by decide) ?_
  refine lv_aload_n hx hb dL_total_2 rfl (lv_at hl 0 rfl) ?_
  refine lv_iload_n hx hb dL_total_3 rfl (lv_at hl 1 rfl) ?_
  refine g_callXWi (σ' := σ') (k := k) (r := r) (As := [.int x1]) (rest := [.int 0, .ref (a 65)]) F X hI (c_X9_total l D a cI (g_inj_sub (by decide) F.2.2) hlt sa N σ x1 _ hh) kb_X9_total ki_X9_total ks_X9_total km_L_94 ⟨(Nat.le_of_ble_eq_true rfl), (Nat.le_of_ble_eq_true rfl), rfl, rfl⟩ hl.1 rfl (Nat.le_of_ble_eq_true rfl) ⟨(Nat.le_of_ble_eq_true rfl), (Nat.le_of_ble_eq_true rfl)⟩ dL_total_4 (fun H locs ce q9 hk hI h1 h2 h3 => ?_) (fun H locs hk hI => ?_)
  · rcases hkk with h0 | h0
    · exact absurd h0 hk
    · have h0 : k = 1 := h0
      subst h0
      refine vx_catch (own := RL) (name := "java/lang/IndexOutOfBoundsException") F.1.2.2.2.1 [] ⟨0, 9, 12, 13⟩ [] htab (fun _ h => nomatch h) rfl (by decide) (F.1.2.2.2.2 _ kl_L_13) (va_Nw.use rfl X.1.2.2.2.2.1) h1 h2 h3 ?_
      refine lv_astore_n (lv' := [(3, .ref q9), (0, .ref (a 0)), (1, .int x1), (2, .ref (a 65))]) hx hb dL_total_12 rfl hl (by decide) rfl (fun ls hl => ?_)
      refine lv_iconst (v := 1) hx hb dL_total_13 (by decide) ?_
      exact hq _ _ _ _ _ _ (Nat.le_of_ble_eq_true rfl) (Nat.le_of_ble_eq_true rfl) hI dL_total_14
  · subst hk
    refine lv_i2l hx hb dL_total_7 rfl ?_
    refine g_wlast F hI dL_total_8 (fun H locs hI => ?_)
    refine lv_goto (tgt := 15) hx hb dL_total_9 (by decide) ?_
    refine lv_iconst (v := 0) hx hb dL_total_15 (by decide) ?_
    exact hq _ _ _ _ _ _ (Nat.le_of_ble_eq_true rfl) (Nat.le_of_ble_eq_true rfl) hI dL_total_16
def f_L_rank (k : Nat) : Int32 := if k = 0 then 0 else 1
def o_L_rank (k : Nat) (r : Int32) (f : Nat → Int64) : Nat → Int64 := if k = 0 then vp_updL f 0 r.toInt64 else f
abbrev rmL_rank : Room := { frames := 9, cells := 1, slots := 6, locals := 145 }
set_option maxRecDepth 100000 in
set_option maxHeartbeats 4000000 in
theorem c_L_rank (l : Launch) (D : va_G) (a : Nat → Nat) (cI cJ : ClassId) (hj : g_Inj 66 a) (hlt : l.stackTraces = false) (sa : Nat → Nat) (N : Nat) (x1 : Int32) (σ : gSt) (f : Nat → Int64) (out : Nat × Int32 × gSt) (hh : f_X9_rank N σ x1 = some out) (hkk : out.1 = 0 ∨ out.1 = 1) : Met l yL_rank (Cond.codeWith yL_rank cL_rank 4 (some .int) [(0, 9, 12, 13)] :: gW) rmL_rank (g_PcL D a (wE a cI cJ σ f) [(cI, .int), (cJ, .long)] sa [.ref (a 0), .int x1, .ref (a 65)]) (g_Qi 66 D a (wE a cI cJ out.2.2 (o_L_rank out.1 out.2.1 f)) (f_L_rank out.1)) 1 6 (g_Own 66 a) := by
  obtain ⟨k, r, σ'⟩ := out
  refine g_metL (by decide) hj (Nat.le_of_ble_eq_true rfl) ?_
  intro p e s m args below meth c Q ls F X htab hl hI hq
  have hx := F.1.1
  have hb := F.1.2.1
  have hl : lv_has ls 4 [(0, .ref (a 0)), (1, .int x1), (2, .ref (a 65))] := hl
  refine lv_aload_n hx hb dL_rank_0 rfl (lv_at hl 2 rfl) ?_
  refine lv_iconst (v := 0) hx hb dL_rank_1 (by decide) ?_
  refine lv_aload_n hx hb dL_rank_2 rfl (lv_at hl 0 rfl) ?_
  refine lv_iload_n hx hb dL_rank_3 rfl (lv_at hl 1 rfl) ?_
  refine g_callXWi (σ' := σ') (k := k) (r := r) (As := [.int x1]) (rest := [.int 0, .ref (a 65)]) F X hI (c_X9_rank l D a cI (g_inj_sub (by decide) F.2.2) hlt sa N σ x1 _ hh) kb_X9_rank ki_X9_rank ks_X9_rank km_L_97 ⟨(Nat.le_of_ble_eq_true rfl), (Nat.le_of_ble_eq_true rfl), rfl, rfl⟩ hl.1 rfl (Nat.le_of_ble_eq_true rfl) ⟨(Nat.le_of_ble_eq_true rfl), (Nat.le_of_ble_eq_true rfl)⟩ dL_rank_4 (fun H locs ce q9 hk hI h1 h2 h3 => ?_) (fun H locs hk hI => ?_)
  · rcases hkk with h0 | h0
    · exact absurd h0 hk
    · have h0 : k = 1 := h0
      subst h0
      refine vx_catch (own := RL) (name := "java/lang/IndexOutOfBoundsException") F.1.2.2.2.1 [] ⟨0, 9, 12, 13⟩ [] htab (fun _ h => nomatch h) rfl (by decide) (F.1.2.2.2.2 _ kl_L_13) (va_Nw.use rfl X.1.2.2.2.2.1) h1 h2 h3 ?_
      refine lv_astore_n (lv' := [(3, .ref q9), (0, .ref (a 0)), (1, .int x1), (2, .ref (a 65))]) hx hb dL_rank_12 rfl hl (by decide) rfl (fun ls hl => ?_)
      refine lv_iconst (v := 1) hx hb dL_rank_13 (by decide) ?_
      exact hq _ _ _ _ _ _ (Nat.le_of_ble_eq_true rfl) (Nat.le_of_ble_eq_true rfl) hI dL_rank_14
  · subst hk
    refine lv_i2l hx hb dL_rank_7 rfl ?_
    refine g_wlast F hI dL_rank_8 (fun H locs hI => ?_)
    refine lv_goto (tgt := 15) hx hb dL_rank_9 (by decide) ?_
    refine lv_iconst (v := 0) hx hb dL_rank_15 (by decide) ?_
    exact hq _ _ _ _ _ _ (Nat.le_of_ble_eq_true rfl) (Nat.le_of_ble_eq_true rfl) hI dL_rank_16
def f_L_lost (k : Nat) : Int32 := if k = 0 then 0 else 1
def o_L_lost (k : Nat) (r : Int32) (f : Nat → Int64) : Nat → Int64 := if k = 0 then vp_updL f 0 r.toInt64 else f
abbrev rmL_lost : Room := { frames := 9, cells := 2, slots := 12, locals := 165 }
set_option maxRecDepth 100000 in
set_option maxHeartbeats 4000000 in
theorem c_L_lost (l : Launch) (D : va_G) (a : Nat → Nat) (cI cJ : ClassId) (hj : g_Inj 66 a) (hlt : l.stackTraces = false) (sa : Nat → Nat) (N : Nat) (x1 x2 : Int32) (σ : gSt) (f : Nat → Int64) (out : Nat × Int32 × gSt) (hh : f_X9_lost N σ x1 x2 = some out) (hkk : out.1 = 0 ∨ out.1 = 1) : Met l yL_lost (Cond.codeWith yL_lost cL_lost 5 (some .int) [(0, 10, 13, 13)] :: gW) rmL_lost (g_PcL D a (wE a cI cJ σ f) [(cI, .int), (cJ, .long)] sa [.ref (a 0), .int x1, .int x2, .ref (a 65)]) (g_Qi 66 D a (wE a cI cJ out.2.2 (o_L_lost out.1 out.2.1 f)) (f_L_lost out.1)) 2 12 (g_Own 66 a) := by
  obtain ⟨k, r, σ'⟩ := out
  refine g_metL (by decide) hj (Nat.le_of_ble_eq_true rfl) ?_
  intro p e s m args below meth c Q ls F X htab hl hI hq
  have hx := F.1.1
  have hb := F.1.2.1
  have hl : lv_has ls 5 [(0, .ref (a 0)), (1, .int x1), (2, .int x2), (3, .ref (a 65))] := hl
  refine lv_aload_n hx hb dL_lost_0 rfl (lv_at hl 3 rfl) ?_
  refine lv_iconst (v := 0) hx hb dL_lost_1 (by decide) ?_
  refine lv_aload_n hx hb dL_lost_2 rfl (lv_at hl 0 rfl) ?_
  refine lv_iload_n hx hb dL_lost_3 rfl (lv_at hl 1 rfl) ?_
  refine lv_iload_n hx hb dL_lost_4 rfl (lv_at hl 2 rfl) ?_
  refine g_callXWi (σ' := σ') (k := k) (r := r) (As := [.int x1, .int x2]) (rest := [.int 0, .ref (a 65)]) F X hI (c_X9_lost l D a cI (g_inj_sub (by decide) F.2.2) hlt sa N σ x1 x2 _ hh) kb_X9_lost ki_X9_lost ks_X9_lost km_L_100 ⟨(Nat.le_of_ble_eq_true rfl), (Nat.le_of_ble_eq_true rfl), rfl, rfl⟩ hl.1 rfl (Nat.le_of_ble_eq_true rfl) ⟨(Nat.le_of_ble_eq_true rfl), (Nat.le_of_ble_eq_true rfl)⟩ dL_lost_5 (fun H locs ce q9 hk hI h1 h2 h3 => ?_) (fun H locs hk hI => ?_)
  · rcases hkk with h0 | h0
    · exact absurd h0 hk
    · have h0 : k = 1 := h0
      subst h0
      refine vx_catch (own := RL) (name := "java/lang/IndexOutOfBoundsException") F.1.2.2.2.1 [] ⟨0, 10, 13, 13⟩ [] htab (fun _ h => nomatch h) rfl (by decide) (F.1.2.2.2.2 _ kl_L_13) (va_Nw.use rfl X.1.2.2.2.2.1) h1 h2 h3 ?_
      refine lv_astore (lv' := [(4, .ref q9), (0, .ref (a 0)), (1, .int x1), (2, .int x2), (3, .ref (a 65))]) hx hb dL_lost_13 hl (by decide) rfl (fun ls hl => ?_)
      refine lv_iconst (v := 1) hx hb dL_lost_15 (by decide) ?_
      exact hq _ _ _ _ _ _ (Nat.le_of_ble_eq_true rfl) (Nat.le_of_ble_eq_true rfl) hI dL_lost_16
  · subst hk
    refine lv_i2l hx hb dL_lost_8 rfl ?_
    refine g_wlast F hI dL_lost_9 (fun H locs hI => ?_)
    refine lv_goto (tgt := 17) hx hb dL_lost_10 (by decide) ?_
    refine lv_iconst (v := 0) hx hb dL_lost_17 (by decide) ?_
    exact hq _ _ _ _ _ _ (Nat.le_of_ble_eq_true rfl) (Nat.le_of_ble_eq_true rfl) hI dL_lost_18
